/-! The law's walk: all its places in order. -/
theorem tx_pos {D : mt_D} (h : tx D) : posD D := fun k x hx => by have := h.2.2 k x hx; omega
theorem ordS_at {D : mt_D} {y : Nat × Nat} {i s : Nat} (h : (ordS D s)[i]? = some y) : y.1 < s ∧ y.2 < lenD D y.1 := (ordS_mem s).mp (List.mem_of_getElem? h)
theorem law_271 {kb wb o b ta m N n k l7 l8 M : Nat} {D P : mt_D} {w : List Int} {E : Option mt_D} {bb : Bool} {Q : mx_R → Prop} {l5 x : Int} (hx : tx D) (hD : D.length = m) (hm : m ≤ 3) (p1 : N ≤ l7) (p2 : N ≤ l8) (p3 : l7 ≠ l8) (hk : k < m) (hM : M = totD D m)
    (K : ∀ (g : Nat → Nat × Nat) (σ : mx_S), SE o b ta m N D w P E bb n l7 l8 M g σ → (∀ i y, (ordS D (k + 1))[i]? = some y → g i = y) → mx_J YL_law kb wb 262 [some (mR b), some (mR o), some (mI 1), some (mI (m : Int)), some (mR ta), some (mI l5), some (mI x), some (mR l7), some (mR l8), some (mI (totD D (k + 1) : Nat)), some (mI ((k + 1 : Nat) : Int)), none, none, none, none, none, none, none, none, none, none, none, none] [] σ Q) :
    ∀ (c p : Nat) (g : Nat → Nat × Nat) (σ : mx_S), p + c = lenD D k → SE o b ta m N D w P E bb n l7 l8 M g σ → (∀ i y, (ordP D (ordS D k) k p)[i]? = some y → g i = y) → mx_J YL_law kb wb 271 [some (mR b), some (mR o), some (mI 1), some (mI (m : Int)), some (mR ta), some (mI l5), some (mI x), some (mR l7), some (mR l8), some (mI ((totD D k + p : Nat) : Int)), some (mI (k : Int)), some (mI (p : Int)), none, none, none, none, none, none, none, none, none, none, none] [] σ Q := by
  have hP := tx_pos hx
  have u1 := tot9 hx.2.1 m
  have u2 : totD D (k + 1) ≤ totD D m := totD_mono m (by omega)
  have u3 : totD D (k + 1) = totD D k + lenD D k := rfl
  intro c
  induction c with
  | zero =>
    intro p g σ hp h hg
    have hp : p = lenD D k := hp
    subst hp
    obtain ⟨f, a, g9, t1, t2, t3, t4, t5, -⟩ := LT_txt h.1.2.1 (k := k) (by omega)
    refine B_YL_law_271 ⟨_, _, _, t1, by decide, by omega, t5, a, t2, _, _, _, t3, fun _ => ?_, fun d => absurd (Int.le_refl _) d⟩
    rw [wl_1 (by omega)]
    exact K g σ h hg
  | succ c ih =>
    intro p g σ hp h hg
    obtain ⟨f, a, g9, t1, t2, t3, t4, t5, -⟩ := LT_txt h.1.2.1 (k := k) (by omega)
    have hlen : (ordP D (ordS D k) k p).length = totD D k + p := by rw [ordP_len, ordS_len]
    have hsr : srt D (ordP D (ordS D k) k p) := ordP_srt hP (ordS_srt hP k) (fun y hy => by have := (ordS_mem k).mp hy; exact ⟨this.2, this.1⟩) p (by omega)
    have hmem : ∀ y ∈ ordP D (ordS D k) k p, y.1 < D.length ∧ y.2 < lenD D y.1 ∧ y.1 ≤ k ∧ y ≠ (k, p) := fun y hy => by
      rcases (ordP_mem p).mp hy with q | ⟨q1, q2⟩
      · have := (ordS_mem k).mp q
        refine ⟨by omega, this.2, by omega, fun e => ?_⟩
        rw [e] at this
        exact absurd this.1 (Nat.lt_irrefl _)
      · refine ⟨by omega, by rw [q1]; omega, by omega, fun e => ?_⟩
        rw [e] at q2
        exact absurd q2 (Nat.lt_irrefl _)
    refine B_YL_law_271 ⟨_, _, _, t1, by decide, by omega, t5, a, t2, _, _, _, t3, fun d => absurd d (by omega), fun _ => ?_⟩
    have K9 := law_289 (kb := kb) (wb := wb) (Q := Q) (l5 := l5) (x := x) (l9 := ((totD D k + p : Nat) : Int)) (o := o) (b := b) (ta := ta) (m := m) (N := N) (n := n) (w := w) (P := P) (E := E) (bb := bb) (M := M) hx p1 p2 p3 (show k < D.length by omega) (show p < lenD D k by omega) hsr hmem (by omega) (by omega) (fun a g1 s1 l13 hpos h1 lo up => ?_) (totD D k + p) g σ (by omega) h (fun i y _ hy => hg i y hy) (fun i y hi hy => by have := (List.getElem?_eq_some_iff.mp hy).1; omega) (fun i y hi hy => by have := (List.getElem?_eq_some_iff.mp hy).1; omega)
    · exact K9
    · obtain ⟨h2, h7, h8, -⟩ := id h1
      have hB : sB s1 ≤ N := by
        have q1 := h2.2.1.2.2.1
        have q2 := h2.2.1.2.2.2.1
        have q3 := h2.2.1.2.2.2.2.1
        omega
      have ha := hpos.1
      refine B_YL_law_502 ⟨_, _, h7, by omega, by omega, by omega, fun s2 e2 => ⟨_, _, (of_wr e2 (Ne.symm p3)).trans h8, by rw [e2]; show sB s1 ≤ l8; omega, by omega, by omega, fun s3 e3 => ?_⟩⟩
      rw [Int.toNat_natCast] at e2 e3
      rw [wl_1 (by omega), wl_1 (by omega)]
      refine ih (p + 1) _ s3 (by omega) (SE_wr h1 p1 p2 p3 (k, p) rfl rfl e2 e3) (fun i y hy => ?_)
      have hy : (ins D (ordP D (ordS D k) k p) (k, p))[i]? = some y := hy
      rw [pos_at hpos] at hy
      show (if i = a then (k, p) else g1 i) = y
      by_cases c1 : i < a
      · rw [if_pos c1] at hy
        rw [if_neg (by omega)]
        exact lo i y c1 hy
      · rw [if_neg c1] at hy
        by_cases c2 : i = a
        · rw [if_pos c2] at hy
          rw [if_pos c2]
          exact Option.some.inj hy
        · rw [if_neg c2] at hy
          rw [if_neg c2]
          have := up (i - 1) y (by omega) hy
          rw [show i - 1 + 1 = i by omega] at this
          exact this
/-- before the ranks: the two arrays hold the places in order, and a third has four zeros -/
def RE (o b ta m N : Nat) (D : mt_D) (w : List Int) (P : mt_D) (E : Option mt_D) (bb : Bool) (n l7 l8 : Nat) (σ : mx_S) : Prop := GT o b ta m N D w P E bb n σ ∧ o + 85 ≤ l7 ∧ o + 85 ≤ l8 ∧ l7 < N ∧ l8 < N ∧ ∃ g : Nat → Nat × Nat, aL l7 l8 (totD D m) g σ ∧ ∀ i y, (ordS D m)[i]? = some y → g i = y
theorem law_262 {kb wb : Nat} (hkb : 5000 ≤ kb) (hwb : 540000 ≤ wb) {o b ta m N l7 l8 M : Nat} {D P : mt_D} {w : List Int} {E : Option mt_D} {bb : Bool} {Q : mx_R → Prop} {l5 x : Int} (hx : tx D) (hD : D.length = m) (hm : m ≤ 3) (p1 : N ≤ l7) (p2 : N ≤ l8) (p3 : l7 ≠ l8) (hM : M = totD D m)
    (K : ∀ (σ : mx_S) (N' l12 : Nat), RE o b ta m N' D w P E bb 330 l7 l8 σ → N' ≤ l12 → l12 < sN σ → sH σ l12 = some (.inr (0, 4, fun j => mI (z0 j))) → mx_J YL_law kb wb 546 [some (mR b), some (mR o), some (mI 1), some (mI (m : Int)), some (mR ta), some (mI l5), some (mI x), some (mR l7), some (mR l8), some (mI (totD D m : Nat)), some (mI 0), some (mI 32), some (mR l12), some (mI 0), none, none, none, none, none, none, none, none, none] [] σ Q) :
    ∀ (c k : Nat) (g : Nat → Nat × Nat) (σ : mx_S), k + c = m → SE o b ta m N D w P E bb 320 l7 l8 M g σ → (∀ i y, (ordS D k)[i]? = some y → g i = y) → mx_J YL_law kb wb 262 [some (mR b), some (mR o), some (mI 1), some (mI (m : Int)), some (mR ta), some (mI l5), some (mI x), some (mR l7), some (mR l8), some (mI (totD D k : Nat)), some (mI (k : Int)), none, none, none, none, none, none, none, none, none, none, none, none] [] σ Q := by
  intro c
  induction c with
  | zero =>
    intro k g σ hk h hg
    have z7 := h.2.2.2.1
    have z8 := h.2.2.2.2
    have hk : k = m := hk
    subst hk
    subst hM
    obtain ⟨h1, h2⟩ := h
    have hb := bd_kb h1.2.2 (by omega) hkb hwb
    have b1 := h1.2.2.1
    have b2 := h1.2.2.2
    have d1 := h1.2.1.2.2.2.1
    have d2 := h1.2.1.2.2.2.2.1
    have d3 := h1.2.1.2.2.2.2.2.1
    refine B_YL_law_262 ⟨fun _ => ⟨by decide, by decide, by omega, by show sW σ + 4 ≤ wb; omega, fun s1 a2 e1 e2 => ?_⟩, fun d => absurd (Int.le_refl _) d⟩
    have e1 : s1 = mx_al σ (.inr (0, 4, fun _ => mI 0)) 4 := e1
    have k1 : ∀ q, q < sN σ → sH s1 q = sH σ q := fun q hq => of_al e1 hq
    have n1 : sN s1 = sN σ + 1 := by rw [e1]; rfl
    have c1 : sK s1 = sK σ + 1 := by rw [e1]; rfl
    have w1 : sW s1 = sW σ + 4 := by rw [e1]; rfl
    have bb1 : sB s1 = sB σ := by rw [e1]; rfl
    have a1 := of_alA e1 e2.symm
    have G1 : GT o b ta k (sN σ) D w P E bb 330 s1 := by
      refine ⟨h1.1.kp (fun q q1 q2 => k1 q (by omega)), ?_, ⟨by omega, by omega⟩⟩
      have L1 := LT_kp (N := N) h1.2.1 (σ' := s1) ⟨bb1, by omega, fun q q1 _ => k1 q (by omega)⟩
      obtain ⟨g1, g2, g3, g4, g5, g6, g7, f, g8, g9⟩ := L1
      exact ⟨g1, g2, g3, g4, by omega, by omega, g7, f, g8, fun k hk => by
        obtain ⟨a, a1, a3, a4, a5, a6⟩ := g9 k hk
        exact ⟨a, a1, a3, by omega, a5, a6⟩⟩
    subst e2
    exact K s1 (sN σ) (sN σ) ⟨G1, by omega, by omega, z7, z8, g, ⟨(k1 _ z7).trans h2.1, (k1 _ z8).trans h2.2.1, by omega, by omega⟩, hg⟩ (Nat.le_refl _) (by omega) a1
  | succ c ih =>
    intro k g σ hk h hg
    refine B_YL_law_262 ⟨fun d => absurd d (by omega), fun _ => ?_⟩
    have K9 := law_271 (kb := kb) (wb := wb) (Q := Q) (l5 := l5) (x := x) (o := o) (b := b) (ta := ta) (m := m) (N := N) (n := 320) (k := k) (l7 := l7) (l8 := l8) (M := M) (D := D) (w := w) (P := P) (E := E) (bb := bb) hx hD hm p1 p2 p3 (by omega) hM (fun g1 s1 h1 hg1 => ?_) (lenD D k) 0 g σ (by omega) h hg
    · exact K9
    · exact ih (k + 1) g1 s1 (by omega) h1 hg1
theorem law_244 {kb wb : Nat} (hkb : 5000 ≤ kb) (hwb : 540000 ≤ wb) {o b ta m N : Nat} {D P : mt_D} {w : List Int} {E : Option mt_D} {bb : Bool} {Q : mx_R → Prop} {x : Int} {σ : mx_S} (hx : tx D) (hD : D.length = m) (hm : m ≤ 3) (h : GT o b ta m N D w P E bb 310 σ)
    (K : ∀ (σ : mx_S) (N' l7 l8 l12 : Nat), RE o b ta m N' D w P E bb 330 l7 l8 σ → N' ≤ l12 → l12 < sN σ → sH σ l12 = some (.inr (0, 4, fun j => mI (z0 j))) → mx_J YL_law kb wb 546 [some (mR b), some (mR o), some (mI 1), some (mI (m : Int)), some (mR ta), some (mI (totD D m : Nat)), some (mI x), some (mR l7), some (mR l8), some (mI (totD D m : Nat)), some (mI 0), some (mI 32), some (mR l12), some (mI 0), none, none, none, none, none, none, none, none, none] [] σ Q) : mx_J YL_law kb wb 244 [some (mR b), some (mR o), some (mI 1), some (mI (m : Int)), some (mR ta), some (mI (totD D m : Nat)), some (mI x), none, none, none, none, none, none, none, none, none, none, none, none, none, none, none, none] [] σ Q := by
  have u1 := tot9 hx.2.1 m
  have b1 := h.2.2.1
  have b2 := h.2.2.2
  have d1 := h.2.1.2.2.2.1
  have d2 := h.2.1.2.2.2.2.1
  have d3 := h.2.1.2.2.2.2.2.1
  refine B_YL_law_244 ?_
  rw [Int.toNat_natCast]
  refine ⟨by omega, by omega, by omega, by omega, fun s1 l7 e1 e2 => ?_⟩
  have k1 : ∀ q, q < sN σ → sH s1 q = sH σ q := fun q hq => of_al e1 hq
  have n1 : sN s1 = sN σ + 1 := by rw [e1]; rfl
  have c1 : sK s1 = sK σ + 1 := by rw [e1]; rfl
  have w1 : sW s1 = sW σ + totD D m := by rw [e1]; rfl
  have bb1 : sB s1 = sB σ := by rw [e1]; rfl
  refine ⟨by omega, by omega, by omega, by omega, fun s2 l8 e3 e4 => ?_⟩
  have k2 : ∀ q, q < sN s1 → sH s2 q = sH s1 q := fun q hq => of_al e3 hq
  have n2 : sN s2 = sN s1 + 1 := by rw [e3]; rfl
  have c2 : sK s2 = sK s1 + 1 := by rw [e3]; rfl
  have w2 : sW s2 = sW s1 + totD D m := by rw [e3]; rfl
  have bb2 : sB s2 = sB s1 := by rw [e3]; rfl
  have G2 : GT o b ta m N D w P E bb 320 s2 := ⟨h.1.kp (fun q q1 q2 => (k2 q (by omega)).trans (k1 q (by omega))), LT_kp h.2.1 ⟨bb2.trans bb1, by omega, fun q q1 _ => (k2 q (by omega)).trans (k1 q (by omega))⟩, ⟨by omega, by omega⟩⟩
  refine law_262 hkb hwb hx hD hm (l7 := l7) (l8 := l8) (M := totD D m) (by omega) (by omega) (by omega) rfl (fun s N' l12 => K s N' l7 l8 l12) m 0 (fun _ => (0, 0)) s2 (by omega) ⟨G2, (k2 l7 (by omega)).trans (of_alA e1 e2.symm), of_alA e3 e4.symm, by omega, by omega⟩ (fun i y hy => ?_)
  have hy : ([] : List (Nat × Nat))[i]? = some y := hy
  simp at hy
