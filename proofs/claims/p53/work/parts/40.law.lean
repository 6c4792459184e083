/-! The law's walk: intervals. -/
theorem wl_s {a b : Nat} (h : b ≤ a) (ha : a ≤ 100000) : mx_w ((a : Int) - (b : Int)) = ((a - b : Nat) : Int) := by rw [mx_w_id (by omega) (by omega)]; omega
/-- with the row in an array of the law's own -/
def TE (o b ta m N : Nat) (D : mt_D) (w : List Int) (P : mt_D) (E : Option mt_D) (bb : Bool) (n l7 l8 ra : Nat) (σ : mx_S) : Prop := RE o b ta m N D w P E bb n l7 l8 σ ∧ o + 85 ≤ ra ∧ isC σ ra w
theorem TE_call {kb wb o b ta m N n l7 l8 ra : Nat} {D P : mt_D} {w : List Int} {E : Option mt_D} {bb : Bool} {σ σ' : mx_S} {Y : mx_M} {As : List mx_V} {v : Int} {G : Int → mx_S → Prop} (h : TE o b ta m N D w P E bb n l7 l8 ra σ) (hn : n + 1 ≤ 5000) (hkb : 5000 ≤ kb) (hwb : 540000 ≤ wb) (h' : hS σ' o w P E bb) (F : fx o σ σ') (M : mx_MSN Y As σ (some (mI v)) σ') (K : ∀ σ3, TE o b ta m N D w P E bb (n + 1) l7 l8 ra σ3 → G v σ3) : ∃ (r : Int) (σ' : mx_S), mx_MSN Y As σ (some (mI r)) σ' ∧ sK σ' ≤ kb ∧ sW σ' ≤ wb ∧ ∀ (n4 : Nat) (σ3 : mx_S), sN σ' ≤ n4 → σ3 = mx_at_n σ' n4 → G r σ3 :=
  RE_call h.1 hn hkb hwb h' F M fun σ3 g k => K σ3 ⟨g, h.2.1, h.2.2.kp ((k (ra + 1)).2.2 ra (Nat.lt_succ_self _) (Or.inr h.2.1))⟩
theorem crL_n {l : List Int} : crL l [] = 0 := by cases l <;> rfl
/-- what the law reads off a rank -/
theorem law_866 {kb wb o b ta m N n l7 l8 ra st k : Nat} {y : Nat × Nat} {D P : mt_D} {w : List Int} {E : Option mt_D} {bb : Bool} {σ : mx_S} {Q : mx_R → Prop} {x l9 l10 l11 l15 l16 : Int} {l12 ay : Nat} (h : TE o b ta m N D w P E bb n l7 l8 ra σ) (hD : D.length = m) (hm : m ≤ 3) (hx : tx D) (hw : let3 w) (hw3 : w.length ≤ 20) (hst : st ≤ w.length) (hy : (ordS D m)[k]? = some y) (hay : isC σ ay (D.getD y.1 []))
    (K : ∀ l19 l20 : Int, (l19 < 0 ↔ crL (suf D y) (w.drop (w.length - st)) < 0) → (l19 ≤ 0 ↔ crL (suf D y) (w.drop (w.length - st)) ≤ 0) → mx_J YL_law kb wb 930 [some (mR b), some (mR o), some (mI 1), some (mI (m : Int)), some (mR ta), some (mI (totD D m : Nat)), some (mI x), some (mR l7), some (mR l8), some (mI l9), some (mI l10), some (mI l11), some (mR l12), some (mR ra), some (mI (st : Int)), some (mI l15), some (mI l16), some (mI (k : Int)), some (mR ay), some (mI l19), some (mI l20), none, none] [] σ Q) :
    ∀ c j : Nat, j + c = st → y.2 + j ≤ lenD D y.1 → crL (suf D y) (w.drop (w.length - st)) = crL ((D.getD y.1 []).drop (y.2 + j)) (w.drop (w.length - st + j)) → mx_J YL_law kb wb 866 [some (mR b), some (mR o), some (mI 1), some (mI (m : Int)), some (mR ta), some (mI (totD D m : Nat)), some (mI x), some (mR l7), some (mR l8), some (mI l9), some (mI l10), some (mI l11), some (mR l12), some (mR ra), some (mI (st : Int)), some (mI l15), some (mI l16), some (mI (k : Int)), some (mR ay), some (mI 0), some (mI (j : Int)), none, none] [] σ Q := by
  have u2 := hx.2.1 y.1
  obtain ⟨g, t1, t2, t3, t4, t5⟩ := RE_at h.1 hy
  obtain ⟨gw, r1, r2⟩ := id h.2.2
  obtain ⟨gy, y1, y2⟩ := id hay
  have y1 : sH σ ay = some (.inr (1, lenD D y.1, fun j => mI (gy j))) := y1
  intro c
  induction c with
  | zero =>
    intro j hj h2 hc
    have hj : j = st := hj
    have e0 : crL (suf D y) (w.drop (w.length - st)) = 0 := by rw [hc, dropn (l := w) (by omega)]; exact crL_n
    refine B_YL_law_866 ⟨fun _ => K 0 _ ?_ ?_, fun d => absurd (by omega) d⟩
    · rw [e0]
    · rw [e0]
  | succ c ih =>
    intro j hj h2 hc
    have K3 : ∀ (v q : Int), ¬ v = 0 → (v < 0 ↔ crL (suf D y) (w.drop (w.length - st)) < 0) → (v ≤ 0 ↔ crL (suf D y) (w.drop (w.length - st)) ≤ 0) → mx_J YL_law kb wb 866 [some (mR b), some (mR o), some (mI 1), some (mI (m : Int)), some (mR ta), some (mI (totD D m : Nat)), some (mI x), some (mR l7), some (mR l8), some (mI l9), some (mI l10), some (mI l11), some (mR l12), some (mR ra), some (mI (st : Int)), some (mI l15), some (mI l16), some (mI (k : Int)), some (mR ay), some (mI v), some (mI q), none, none] [] σ Q := fun v q h0 h1 h2 => B_YL_law_866 ⟨fun _ => K v q h1 h2, fun _ => ⟨fun _ => K v q h1 h2, fun d => absurd h0 d⟩⟩
    have hwj := hw (w.getD (w.length - st + j) 0) (by
      rw [List.getD_eq_getElem?_getD, List.getElem?_eq_getElem (show w.length - st + j < w.length by omega)]
      exact List.getElem_mem _)
    refine B_YL_law_866 ⟨fun d => absurd d (by omega), fun _ => ⟨fun d => absurd rfl d, fun _ => ⟨_, _, _, r1, ?_⟩⟩⟩
    rw [wl_s hst (by omega), wl_a (by omega)]
    refine ⟨_, _, r1, by omega, by omega, w.getD (w.length - st + j) 0, by rw [Int.toNat_natCast, r2 _ (by omega)], _, _, t2, by omega, t5, _, t4, _, _, _, y1, ?_⟩
    rw [wl_a (by omega)]
    refine ⟨fun d => ?_, fun d => ?_⟩
    · have hlt : y.2 + j < lenD D y.1 := by omega
      have q1 := tx_at hx (k := y.1) (p := y.2 + j) hlt
      refine ⟨_, _, y1, by omega, by omega, (D.getD y.1 []).getD (y.2 + j) 0, by rw [Int.toNat_natCast, y2 _ hlt], B_YL_law_922 ?_⟩
      rw [wl_1 (by omega), mx_w_id (x := _ - _) (by omega) (by omega)]
      have hc2 : crL (suf D y) (w.drop (w.length - st)) = if (D.getD y.1 []).getD (y.2 + j) 0 = w.getD (w.length - st + j) 0 then crL ((D.getD y.1 []).drop (y.2 + j + 1)) (w.drop (w.length - st + j + 1)) else (D.getD y.1 []).getD (y.2 + j) 0 - w.getD (w.length - st + j) 0 := by
        rw [hc, dropc (l := D.getD y.1 []) hlt, dropc (l := w) (show w.length - st + j < w.length by omega)]
        rfl
      by_cases e : (D.getD y.1 []).getD (y.2 + j) 0 = w.getD (w.length - st + j) 0
      · rw [e, Int.sub_self]
        exact ih (j + 1) (by omega) (by omega) (by rw [hc2, if_pos e]; rfl)
      · rw [if_neg e] at hc2
        exact K3 _ _ (by omega) (by rw [hc2]) (by rw [hc2])
    · have hc2 : crL (suf D y) (w.drop (w.length - st)) = - w.getD (w.length - st + j) 0 := by
        rw [hc, dropn (l := D.getD y.1 []) (show lenD D y.1 ≤ y.2 + j by omega), dropc (l := w) (show w.length - st + j < w.length by omega)]
        rfl
      refine B_YL_law_922 ?_
      rw [wl_1 (by omega)]
      exact K3 (-1) _ (by decide) (by rw [hc2]; omega) (by rw [hc2]; omega)
theorem law_843 {kb wb : Nat} (hkb : 5000 ≤ kb) (hwb : 540000 ≤ wb) {o b ta m N n l7 l8 ra st : Nat} {D P : mt_D} {w : List Int} {E : Option mt_D} {bb : Bool} {σ : mx_S} {Q : mx_R → Prop} {x l9 l10 l11 : Int} {l12 : Nat} (h : TE o b ta m N D w P E bb n l7 l8 ra σ) (hn : n + 2 ≤ 5000) (hD : D.length = m) (hm : m ≤ 3) (hx : tx D) (hv : vS P E x D) (hw : let3 w) (hw0 : 0 < w.length) (hw3 : w.length ≤ 20) (hst : st ≤ w.length)
    (K : ∀ σ', TE o b ta m N D w P E bb (n + 2) l7 l8 ra σ' → mx_J YL_law kb wb 826 [some (mR b), some (mR o), some (mI 1), some (mI (m : Int)), some (mR ta), some (mI (totD D m : Nat)), some (mI x), some (mR l7), some (mR l8), some (mI l9), some (mI l10), some (mI l11), some (mR l12), some (mR ra), some (mI ((st + 1 : Nat) : Int)), none, none, none, none, none, none, none, none] [] σ' Q) :
    ∀ c k : Nat, k + c = totD D m → mx_J YL_law kb wb 843 [some (mR b), some (mR o), some (mI 1), some (mI (m : Int)), some (mR ta), some (mI (totD D m : Nat)), some (mI x), some (mR l7), some (mR l8), some (mI l9), some (mI l10), some (mI l11), some (mR l12), some (mR ra), some (mI (st : Int)), some (mI (cn (fun i => ivB D w (w.length - st) 0 (oAt D i)) k : Nat)), some (mI (cn (fun i => ivB D w (w.length - st) 1 (oAt D i)) k : Nat)), some (mI (k : Int)), none, none, none, none, none] [] σ Q := by
  have u1 := tot9 hx.2.1 m
  intro c
  induction c with
  | zero =>
    intro k hk
    have hk : k = totD D m := hk
    subst hk
    subst hD
    have ev : ∀ e : Int, cn (fun i => ivB D w (w.length - st) e (oAt D i)) (totD D D.length) = ctD D (ivB D w (w.length - st) e) D.length := fun e => by
      rw [← ordS_len]
      exact vCn _ fun i y hy => by show ivB D w (w.length - st) e (oAt D i) = _; rw [show oAt D i = y from getD_of hy]
    have x1 := S_int h.1.1.1 hv hw0 hst 0
    rw [← ev 0] at x1
    refine B_YL_law_843 ⟨fun _ => TE_call h (by omega) hkb hwb h.1.1.1 fx_rf x1 fun s3 T3 => ⟨fun d => absurd rfl d, fun _ => ?_⟩, fun d => absurd (Int.le_refl _) d⟩
    have x2 := S_int T3.1.1.1 hv hw0 hst 1
    rw [← ev 1] at x2
    refine TE_call T3 (by omega) hkb hwb T3.1.1.1 fx_rf x2 fun s5 T5 => ⟨fun d => absurd rfl d, fun _ => B_YL_law_1000 ?_⟩
    rw [and_11, wl_1 (by omega)]
    exact K s5 T5
  | succ c ih =>
    intro k hk
    have hr3 : k < (ordS D m).length := by rw [ordS_len]; omega
    obtain ⟨y, hy⟩ : ∃ y, (ordS D m)[k]? = some y := ⟨_, List.getElem?_eq_getElem hr3⟩
    have ya := ordS_at hy
    have oy : oAt D k = y := getD_of (by rw [hD]; exact hy)
    obtain ⟨g, t1, t2, t3, t4, t5⟩ := RE_at h.1 hy
    obtain ⟨f, ay, gy, q1, q2, q3, q4, q5, q6⟩ := LT_txt h.1.1.2.1 (k := y.1) (by omega)
    have c0 := cn_le (fun i => ivB D w (w.length - st) 0 (oAt D i)) k
    have c1 := cn_le (fun i => ivB D w (w.length - st) 1 (oAt D i)) k
    have K9 := ih (k + 1) (by omega)
    have M957 : ∀ (d0 d1 : Nat) (l19 l20 : Int), (d0 = if ivB D w (w.length - st) 0 y = true then 1 else 0) → (d1 = if ivB D w (w.length - st) 1 y = true then 1 else 0) → mx_J YL_law kb wb 957 [some (mR b), some (mR o), some (mI 1), some (mI (m : Int)), some (mR ta), some (mI (totD D m : Nat)), some (mI x), some (mR l7), some (mR l8), some (mI l9), some (mI l10), some (mI l11), some (mR l12), some (mR ra), some (mI (st : Int)), some (mI (mx_w ((cn (fun i => ivB D w (w.length - st) 0 (oAt D i)) k : Nat) + (d0 : Int)))), some (mI (cn (fun i => ivB D w (w.length - st) 1 (oAt D i)) k : Nat)), some (mI (k : Int)), some (mR ay), some (mI l19), some (mI l20), none, none] [mI (d1 : Int), mI (cn (fun i => ivB D w (w.length - st) 1 (oAt D i)) k : Nat)] σ Q := fun d0 d1 l19 l20 e0 e1 => by
      have b0 : d0 ≤ 1 := by rw [e0]; split <;> decide
      have b1 : d1 ≤ 1 := by rw [e1]; split <;> decide
      refine B_YL_law_957 ?_
      rw [wl_a (by omega), wl_a (by omega), wl_1 (by omega)]
      have z0 : cn (fun i => ivB D w (w.length - st) 0 (oAt D i)) (k + 1) = cn (fun i => ivB D w (w.length - st) 0 (oAt D i)) k + d0 := by rw [e0, ← oy]; rfl
      have z1 : cn (fun i => ivB D w (w.length - st) 1 (oAt D i)) (k + 1) = cn (fun i => ivB D w (w.length - st) 1 (oAt D i)) k + d1 := by rw [e1, ← oy]; rfl
      rw [z0, z1] at K9
      exact K9
    refine B_YL_law_843 ⟨fun d => absurd d (by omega), fun _ => ⟨_, _, t1, by omega, t5, _, t3, _, _, _, q1, by decide, by omega, q5, ay, q2, ?_⟩⟩
    refine law_866 h hD hm hx hw hw3 hst hy q6 (fun l19 l20 i1 i2 => ?_) st 0 (Nat.zero_add _) (by omega) rfl
    have v0 : ivB D w (w.length - st) 0 y = true ↔ l19 < 0 := by
      unfold ivB
      rw [decide_eq_true_iff, i1]
      exact ⟨fun q => q.elim id (fun z => absurd rfl z.2), Or.inl⟩
    have v1 : ivB D w (w.length - st) 1 y = true ↔ l19 ≤ 0 := by
      unfold ivB
      rw [decide_eq_true_iff, i2]
      omega
    have M942 : ∀ d0 : Nat, (d0 = if ivB D w (w.length - st) 0 y = true then 1 else 0) → mx_J YL_law kb wb 942 [some (mR b), some (mR o), some (mI 1), some (mI (m : Int)), some (mR ta), some (mI (totD D m : Nat)), some (mI x), some (mR l7), some (mR l8), some (mI l9), some (mI l10), some (mI l11), some (mR l12), some (mR ra), some (mI (st : Int)), some (mI (cn (fun i => ivB D w (w.length - st) 0 (oAt D i)) k : Nat)), some (mI (cn (fun i => ivB D w (w.length - st) 1 (oAt D i)) k : Nat)), some (mI (k : Int)), some (mR ay), some (mI l19), some (mI l20), none, none] [mI (d0 : Int), mI (cn (fun i => ivB D w (w.length - st) 0 (oAt D i)) k : Nat)] σ Q := fun d0 e0 =>
      B_YL_law_942 ⟨fun d => M957 d0 0 l19 l20 e0 (by rw [if_neg (fun z => by have := v1.mp z; omega)]), fun d => M957 d0 1 l19 l20 e0 (by rw [if_pos (v1.mpr (by omega))])⟩
    exact B_YL_law_930 ⟨fun d => M942 0 (by rw [if_neg (fun z => by have := v0.mp z; omega)]), fun d => M942 1 (by rw [if_pos (v0.mpr (by omega))])⟩
theorem law_826 {kb wb : Nat} (hkb : 5000 ≤ kb) (hwb : 540000 ≤ wb) {o b ta m N l7 l8 ra : Nat} {D P : mt_D} {w : List Int} {E : Option mt_D} {bb : Bool} {Q : mx_R → Prop} {x l9 l10 l11 : Int} {l12 : Nat} (hD : D.length = m) (hm : m ≤ 3) (hx : tx D) (hv : vS P E x D) (hw : let3 w) (hw0 : 0 < w.length) (hw3 : w.length ≤ 20)
    (K : ∀ σ', TE o b ta m N D w P E bb 1100 l7 l8 ra σ' → mx_J YL_law kb wb 1014 [some (mR b), some (mR o), some (mI 1), some (mI (m : Int)), some (mR ta), some (mI (totD D m : Nat)), some (mI x), some (mR l7), some (mR l8), some (mI l9), some (mI l10), some (mI l11), some (mR l12), some (mR ra), some (mI 0), some (mI 0), none, none, none, none, none, none, none] [] σ' Q) :
    ∀ (c st n : Nat) (σ : mx_S), st + c = w.length + 1 → n + 2 * c ≤ 1100 → TE o b ta m N D w P E bb n l7 l8 ra σ → mx_J YL_law kb wb 826 [some (mR b), some (mR o), some (mI 1), some (mI (m : Int)), some (mR ta), some (mI (totD D m : Nat)), some (mI x), some (mR l7), some (mR l8), some (mI l9), some (mI l10), some (mI l11), some (mR l12), some (mR ra), some (mI (st : Int)), none, none, none, none, none, none, none, none] [] σ Q := by
  intro c
  induction c with
  | zero =>
    intro st n σ hs hn h
    obtain ⟨gw, r1, r2⟩ := id h.2.2
    exact B_YL_law_826 ⟨_, _, _, r1, fun _ => K σ ⟨RE_mono h.1 (by omega), h.2⟩, fun d => absurd (by omega) d⟩
  | succ c ih =>
    intro st n σ hs hn h
    obtain ⟨gw, r1, r2⟩ := id h.2.2
    exact B_YL_law_826 ⟨_, _, _, r1, fun d => absurd d (by omega), fun _ => law_843 hkb hwb h (by omega) hD hm hx hv hw hw0 hw3 (by omega) (fun s' T' => ih (st + 1) (n + 2) s' (by omega) (by omega) T') (totD D m) 0 (Nat.zero_add _)⟩
theorem law_803 {kb wb : Nat} (hkb : 5000 ≤ kb) (hwb : 540000 ≤ wb) {o b ta m N l7 l8 : Nat} {D P : mt_D} {w0 : List Int} {E : Option mt_D} {bb : Bool} {Q : mx_R → Prop} {x l9 l10 l11 l13 : Int} {l12 : Nat} {σ : mx_S} (hD : D.length = m) (hm : m ≤ 3) (hx : tx D) (hv : vS P E x D) (h : RE o b ta m N D w0 P E bb 1000 l7 l8 σ)
    (K : ∀ σ' w ra, let3 w → 0 < w.length → w.length ≤ 20 → TE o b ta m N D w P E bb 1100 l7 l8 ra σ' → mx_J YL_law kb wb 1014 [some (mR b), some (mR o), some (mI 1), some (mI (m : Int)), some (mR ta), some (mI (totD D m : Nat)), some (mI x), some (mR l7), some (mR l8), some (mI l9), some (mI l10), some (mI l11), some (mR l12), some (mR ra), some (mI 0), some (mI 0), none, none, none, none, none, none, none] [] σ' Q) : mx_J YL_law kb wb 803 [some (mR b), some (mR o), some (mI 1), some (mI (m : Int)), some (mR ta), some (mI (totD D m : Nat)), some (mI x), some (mR l7), some (mR l8), some (mI l9), some (mI l10), some (mI l11), some (mR l12), some (mI l13), none, none, none, none, none, none, none, none, none] [mI 1, mI 1] σ Q := by
  obtain ⟨h1, h2, h3⟩ := id h.1
  obtain ⟨g1, g2, g3, g4, g5, g6, g7, -⟩ := id h2
  obtain ⟨r, r1, m1⟩ := kL_in g1 6 (n := 3) (by omega)
  have hb := bd_kb h3 (by omega) hkb hwb
  obtain ⟨s3, w, p1, p2, p3, p4, p5, p6, p7, p8, p9, p10⟩ := S_typed h1 g3 (by omega) g2 g1 (fm := 90) (m := r + 1) (by omega) (by omega)
  have u3 := h3.1
  have u4 := h3.2
  have hbd3 : bd 1001 s3 := ⟨by omega, by omega⟩
  have hb3 := bd_kb hbd3 (by omega) hkb hwb
  have k3 : kpL o N σ s3 := ⟨p5, by omega, fun q q1 q2 => p9 q (by omega) q2⟩
  have R3 : RE o b ta m N D w P E bb 1001 l7 l8 s3 := RE_kp h ⟨p2, LT_kp h2 k3, hbd3⟩ k3
  refine B_YL_law_803 ⟨_, _, m1, hb.1, hb.2, ?_⟩
  rw [wl_c (by omega), and_11]
  refine ⟨_, s3, p10, hb3.1, hb3.2, ?_⟩
  exact law_826 hkb hwb hD hm hx hv p3 (by omega) (by omega) (fun σ' T' => K σ' w _ p3 (by omega) (by omega) T') (w.length + 1) 0 1001 s3 (Nat.zero_add _) (by omega) ⟨R3, by omega, p4⟩
