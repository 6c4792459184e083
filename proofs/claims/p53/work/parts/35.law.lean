/-! The law's walk: its own order. -/
def aL (l7 l8 M : Nat) (g : Nat → Nat × Nat) (σ : mx_S) : Prop := sH σ l7 = some (.inr (0, M, fun j => mI (((g j).1 : Nat) : Int))) ∧ sH σ l8 = some (.inr (0, M, fun j => mI (((g j).2 : Nat) : Int))) ∧ l7 < sN σ ∧ l8 < sN σ
theorem GT_wr {o b ta m N n a : Nat} {D P : mt_D} {w : List Int} {E : Option mt_D} {bb : Bool} {σ σ' : mx_S} {e : mx_E} (h : GT o b ta m N D w P E bb n σ) (ha : N ≤ a) (he : σ' = mx_wr σ a e) : GT o b ta m N D w P E bb n σ' := by
  have h4 : o + 85 ≤ ta := h.2.1.2.2.2.1
  have h5 : ta < N := h.2.1.2.2.2.2.1
  have k2 : ∀ q, q ≠ a → sH σ' q = sH σ q := fun q hq => of_wr he hq
  have b2 : sB σ' = sB σ := by rw [he]; rfl
  have n2 : sN σ' = sN σ := by rw [he]; rfl
  have c2 : sK σ' = sK σ := by rw [he]; rfl
  have d2 : sW σ' = sW σ := by rw [he]; rfl
  exact ⟨h.1.kp (fun q q1 q2 => k2 q (by omega)), LT_kp h.2.1 ⟨b2, Nat.le_of_eq n2.symm, fun q q1 _ => k2 q (by omega)⟩, ⟨by rw [c2]; exact h.2.2.1, by rw [d2]; exact h.2.2.2⟩⟩
theorem up_g1 {g : Nat → Nat × Nat} {a : Nat} {v : Nat × Nat} {x : Int} (hx : x = (v.1 : Nat)) : upV (fun j => mI (((g j).1 : Nat) : Int)) a (mI x) = fun j => mI ((((if j = a then v else g j) : Nat × Nat).1 : Nat) : Int) := by
  subst hx
  funext j
  unfold upV
  by_cases c : j = a
  · rw [if_pos c, if_pos c]
  · rw [if_neg c, if_neg c]
theorem up_g2 {g : Nat → Nat × Nat} {a : Nat} {v : Nat × Nat} {x : Int} (hx : x = (v.2 : Nat)) : upV (fun j => mI (((g j).2 : Nat) : Int)) a (mI x) = fun j => mI ((((if j = a then v else g j) : Nat × Nat).2 : Nat) : Int) := by
  subst hx
  funext j
  unfold upV
  by_cases c : j = a
  · rw [if_pos c, if_pos c]
  · rw [if_neg c, if_neg c]
theorem cmp_dd {l m : List Int} {i j : Nat} (hi : i < l.length) (hj : j < m.length) : cmpL (l.drop i) (m.drop j) = if l.getD i 0 = m.getD j 0 then cmpL (l.drop (i + 1)) (m.drop (j + 1)) else l.getD i 0 - m.getD j 0 := by
  rw [dropc hi, dropc hj]
  rfl
theorem cmp_nc {l m : List Int} {i j : Nat} (hi : l.length ≤ i) (hj : j < m.length) : cmpL (l.drop i) (m.drop j) = - m.getD j 0 := by
  rw [dropn hi, dropc hj]
  rfl
theorem cmp_cn {l m : List Int} {i j : Nat} (hi : i < l.length) (hj : m.length ≤ j) : cmpL (l.drop i) (m.drop j) = l.getD i 0 := by
  rw [dropc hi, dropn hj]
  rfl
theorem cmp_nn {l m : List Int} {i j : Nat} (hi : l.length ≤ i) (hj : m.length ≤ j) : cmpL (l.drop i) (m.drop j) = 0 := by
  rw [dropn hi, dropn hj]
  rfl
theorem tx_at {D : mt_D} (h : tx D) {k p : Nat} (hp : p < lenD D k) : 97 ≤ (D.getD k []).getD p 0 ∧ (D.getD k []).getD p 0 ≤ 99 := by
  unfold lenD at hp
  have h3 := h.2.2 k
  rw [List.getD_eq_getElem?_getD, List.getElem?_eq_getElem hp]
  exact h3 _ (List.getElem_mem hp)
/-- the law's verdict on two suffixes -/
theorem law_413 {kb wb o b ta m N n k p s ay l7 l8 : Nat} {y : Nat × Nat} {D P : mt_D} {w : List Int} {E : Option mt_D} {bb : Bool} {σ : mx_S} {Q : mx_R → Prop} {l5 x l9 l12 l13 e1 e2 : Int} (h : GT o b ta m N D w P E bb n σ) (hx : tx D) (hk : k < D.length) (hay : isC σ ay (D.getD y.1 [])) (h1 : p + s ≤ lenD D k) (h2 : y.2 + s ≤ lenD D y.1) (h3 : p + s = lenD D k ∨ y.2 + s = lenD D y.1 ∨ ¬ (D.getD k []).getD (p + s) 0 = (D.getD y.1 []).getD (y.2 + s) 0) (he1 : e1 = if p + s = lenD D k then 1 else 0) (he2 : e2 = if y.2 + s = lenD D y.1 then 1 else 0) (hc : cmpL (suf D (k, p)) (suf D y) = cmpL ((D.getD k []).drop (p + s)) ((D.getD y.1 []).drop (y.2 + s))) (K : ∀ v l16 l17 l18 : Int, v = (if cmpL (suf D (k, p)) (suf D y) < 0 then 1 else 0) → mx_J YL_law kb wb 465 [some (mR b), some (mR o), some (mI 1), some (mI (m : Int)), some (mR ta), some (mI l5), some (mI x), some (mR l7), some (mR l8), some (mI l9), some (mI (k : Int)), some (mI (p : Int)), some (mI l12), some (mI l13), some (mR ay), some (mI (y.2 : Int)), some (mI l16), some (mI l17), some (mI l18), none, none, none, none] [mI v] σ Q) : mx_J YL_law kb wb 413 [some (mR b), some (mR o), some (mI 1), some (mI (m : Int)), some (mR ta), some (mI l5), some (mI x), some (mR l7), some (mR l8), some (mI l9), some (mI (k : Int)), some (mI (p : Int)), some (mI l12), some (mI l13), some (mR ay), some (mI (y.2 : Int)), some (mI (s : Int)), some (mI e1), none, none, none, none, none] [mI e2] σ Q := by
  have u1 := hx.2.1 k
  have u2 := hx.2.1 y.1
  by_cases c1 : p + s = lenD D k
  · rw [if_pos c1] at he1
    subst he1
    refine B_YL_law_413 ⟨fun d => absurd d (by decide), fun _ => ?_⟩
    by_cases c2 : y.2 + s = lenD D y.1
    · rw [if_pos c2] at he2
      subst he2
      refine ⟨fun _ => K _ _ _ _ ?_, fun d => absurd (by decide) d⟩
      rw [hc, cmp_nn (Nat.le_of_eq c1.symm) (Nat.le_of_eq c2.symm), if_neg (by decide)]
    · rw [if_neg c2] at he2
      subst he2
      refine ⟨fun d => absurd rfl d, fun _ => K _ _ _ _ ?_⟩
      have q := tx_at hx (k := y.1) (p := y.2 + s) (by omega)
      rw [hc, cmp_nc (Nat.le_of_eq c1.symm) (show y.2 + s < lenD D y.1 by omega), if_pos (by omega)]
  · rw [if_neg c1] at he1
    subst he1
    have q1 := tx_at hx (k := k) (p := p + s) (by omega)
    refine B_YL_law_413 ⟨fun _ => ?_, fun d => absurd rfl d⟩
    by_cases c2 : y.2 + s = lenD D y.1
    · rw [if_pos c2] at he2
      subst he2
      refine ⟨fun _ => K _ _ _ _ ?_, fun d => absurd (by decide) d⟩
      rw [hc, cmp_cn (show p + s < lenD D k by omega) (Nat.le_of_eq c2.symm), if_neg (by omega)]
    · rw [if_neg c2] at he2
      subst he2
      refine ⟨fun d => absurd rfl d, fun _ => ?_⟩
      obtain ⟨f, a, g, t1, t2, t3, t4, t5, -⟩ := LT_txt h.2.1 hk
      obtain ⟨gy, y1, y2⟩ := hay
      have v1 := t4 (p + s) (by omega)
      have v2 := y2 (y.2 + s) (show y.2 + s < lenD D y.1 by omega)
      have y1 : sH σ ay = some (.inr (1, lenD D y.1, fun j => mI (gy j))) := y1
      have hc2 : cmpL (suf D (k, p)) (suf D y) = (D.getD k []).getD (p + s) 0 - (D.getD y.1 []).getD (y.2 + s) 0 := by
        rw [hc, cmp_dd (show p + s < lenD D k by omega) (show y.2 + s < lenD D y.1 by omega), if_neg (by omega)]
      refine ⟨_, _, _, t1, by decide, by omega, t5, a, t2, ?_⟩
      rw [wl_a (by omega), wl_a (by omega)]
      refine ⟨_, _, t3, by omega, by omega, _, rfl, _, _, y1, by omega, by omega, _, rfl, fun d => K _ _ _ _ ?_, fun d => K _ _ _ _ ?_⟩
      all_goals rw [Int.toNat_natCast, Int.toNat_natCast, v1, v2] at d
      · rw [hc2, if_neg (by omega)]
      · rw [hc2, if_pos (by omega)]
theorem law_376 {kb wb o b ta m N n k p s ay l7 l8 : Nat} {y : Nat × Nat} {D P : mt_D} {w : List Int} {E : Option mt_D} {bb : Bool} {σ : mx_S} {Q : mx_R → Prop} {l5 x l9 l12 l13 : Int} (h : GT o b ta m N D w P E bb n σ) (hx : tx D) (hk : k < D.length) (hay : isC σ ay (D.getD y.1 [])) (h1 : p + s ≤ lenD D k) (h2 : y.2 + s ≤ lenD D y.1) (h3 : p + s = lenD D k ∨ y.2 + s = lenD D y.1 ∨ ¬ (D.getD k []).getD (p + s) 0 = (D.getD y.1 []).getD (y.2 + s) 0) (hc : cmpL (suf D (k, p)) (suf D y) = cmpL ((D.getD k []).drop (p + s)) ((D.getD y.1 []).drop (y.2 + s))) (K : ∀ v l16 l17 l18 : Int, v = (if cmpL (suf D (k, p)) (suf D y) < 0 then 1 else 0) → mx_J YL_law kb wb 465 [some (mR b), some (mR o), some (mI 1), some (mI (m : Int)), some (mR ta), some (mI l5), some (mI x), some (mR l7), some (mR l8), some (mI l9), some (mI (k : Int)), some (mI (p : Int)), some (mI l12), some (mI l13), some (mR ay), some (mI (y.2 : Int)), some (mI l16), some (mI l17), some (mI l18), none, none, none, none] [mI v] σ Q) : mx_J YL_law kb wb 376 [some (mR b), some (mR o), some (mI 1), some (mI (m : Int)), some (mR ta), some (mI l5), some (mI x), some (mR l7), some (mR l8), some (mI l9), some (mI (k : Int)), some (mI (p : Int)), some (mI l12), some (mI l13), some (mR ay), some (mI (y.2 : Int)), some (mI (s : Int)), none, none, none, none, none, none] [] σ Q := by
  have u1 := hx.2.1 k
  have u2 := hx.2.1 y.1
  have M2 : ∀ e1 e2 : Int, (e1 = if p + s = lenD D k then 1 else 0) → (e2 = if y.2 + s = lenD D y.1 then 1 else 0) → _ := fun e1 e2 he1 he2 => law_413 h hx hk hay h1 h2 h3 he1 he2 hc K
  have M1 : ∀ e1 : Int, (e1 = if p + s = lenD D k then 1 else 0) → mx_J YL_law kb wb 395 [some (mR b), some (mR o), some (mI 1), some (mI (m : Int)), some (mR ta), some (mI l5), some (mI x), some (mR l7), some (mR l8), some (mI l9), some (mI (k : Int)), some (mI (p : Int)), some (mI l12), some (mI l13), some (mR ay), some (mI (y.2 : Int)), some (mI (s : Int)), none, none, none, none, none, none] [mI e1] σ Q := fun e1 he1 => by
    obtain ⟨gy, y1, y2⟩ := hay
    have y1 : sH σ ay = some (.inr (1, lenD D y.1, fun j => mI (gy j))) := y1
    refine B_YL_law_395 ⟨_, _, _, y1, ?_⟩
    rw [wl_a (by omega)]
    refine ⟨fun d => M2 e1 _ he1 (by rw [if_neg (by omega)]), fun d => M2 e1 _ he1 (by rw [if_pos (by omega)])⟩
  obtain ⟨f, a, g, t1, t2, t3, t4, t5, -⟩ := LT_txt h.2.1 hk
  refine B_YL_law_376 ⟨_, _, _, t1, by decide, by omega, t5, a, t2, _, _, _, t3, ?_⟩
  rw [wl_a (by omega)]
  exact ⟨fun d => M1 _ (by rw [if_neg (by omega)]), fun d => M1 _ (by rw [if_pos (by omega)])⟩
theorem law_323 {kb wb o b ta m N n k p ay l7 l8 : Nat} {y : Nat × Nat} {D P : mt_D} {w : List Int} {E : Option mt_D} {bb : Bool} {σ : mx_S} {Q : mx_R → Prop} {l5 x l9 l12 l13 : Int} (h : GT o b ta m N D w P E bb n σ) (hx : tx D) (hk : k < D.length) (hay : isC σ ay (D.getD y.1 [])) (K : ∀ v l16 l17 l18 : Int, v = (if cmpL (suf D (k, p)) (suf D y) < 0 then 1 else 0) → mx_J YL_law kb wb 465 [some (mR b), some (mR o), some (mI 1), some (mI (m : Int)), some (mR ta), some (mI l5), some (mI x), some (mR l7), some (mR l8), some (mI l9), some (mI (k : Int)), some (mI (p : Int)), some (mI l12), some (mI l13), some (mR ay), some (mI (y.2 : Int)), some (mI l16), some (mI l17), some (mI l18), none, none, none, none] [mI v] σ Q) : ∀ n s : Nat, p + s + n = lenD D k → y.2 + s ≤ lenD D y.1 → cmpL (suf D (k, p)) (suf D y) = cmpL ((D.getD k []).drop (p + s)) ((D.getD y.1 []).drop (y.2 + s)) → mx_J YL_law kb wb 323 [some (mR b), some (mR o), some (mI 1), some (mI (m : Int)), some (mR ta), some (mI l5), some (mI x), some (mR l7), some (mR l8), some (mI l9), some (mI (k : Int)), some (mI (p : Int)), some (mI l12), some (mI l13), some (mR ay), some (mI (y.2 : Int)), some (mI (s : Int)), none, none, none, none, none, none] [] σ Q := by
  have u1 := hx.2.1 k
  have u2 := hx.2.1 y.1
  obtain ⟨f, a, g, t1, t2, t3, t4, t5, -⟩ := LT_txt h.2.1 hk
  have hay' := hay
  obtain ⟨gy, y1, y2⟩ := hay'
  have y1 : sH σ ay = some (.inr (1, lenD D y.1, fun j => mI (gy j))) := y1
  intro n
  induction n with
  | zero =>
    intro s hs h2 hc
    refine B_YL_law_323 ⟨_, _, _, t1, by decide, by omega, t5, a, t2, _, _, _, t3, ?_⟩
    rw [wl_a (by omega)]
    exact ⟨fun _ => law_376 h hx hk hay (by omega) h2 (Or.inl (by omega)) hc K, fun d => absurd (by omega) d⟩
  | succ n ih =>
    intro s hs h2 hc
    refine B_YL_law_323 ⟨_, _, _, t1, by decide, by omega, t5, a, t2, _, _, _, t3, ?_⟩
    rw [wl_a (by omega), wl_a (by omega), wl_1 (by omega)]
    refine ⟨fun d => absurd d (by omega), fun _ => ⟨_, _, _, y1, fun d => law_376 h hx hk hay (by omega) h2 (Or.inr (Or.inl (by omega))) hc K, fun d => ?_⟩⟩
    have v1 := t4 (p + s) (by omega)
    have v2 := y2 (y.2 + s) (show y.2 + s < lenD D y.1 by omega)
    refine ⟨_, _, _, t1, by decide, by omega, t5, a, t2, _, _, t3, by omega, by omega, _, rfl, _, _, y1, by omega, by omega, _, rfl, fun e => ?_, fun e => ?_⟩
    all_goals rw [Int.toNat_natCast, Int.toNat_natCast, v1, v2] at e
    · exact law_376 h hx hk hay (by omega) h2 (Or.inr (Or.inr e)) hc K
    · refine ih (s + 1) (by omega) (by omega) ?_
      rw [hc, cmp_dd (show p + s < lenD D k by omega) (show y.2 + s < lenD D y.1 by omega), if_pos (Decidable.not_not.mp e)]
      rfl
