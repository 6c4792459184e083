/-! The law's walk: the texts; the snapshot. -/
/-- the texts that the law types -/
def tx (D : mt_D) : Prop := (∀ k : Nat, k < D.length → 0 < lenD D k) ∧ (∀ k : Nat, lenD D k ≤ 9) ∧ ∀ k : Nat, let3 (D.getD k [])
theorem getD_app {D : mt_D} {w : List Int} (k : Nat) : (D ++ [w]).getD k [] = if k = D.length then w else D.getD k [] := by
  by_cases c : k < D.length
  · rw [if_neg (by omega), app_lt c]
  · by_cases d : k = D.length
    · rw [if_pos d, d, app_eq]
    · rw [if_neg d, List.getD_eq_getElem?_getD, List.getD_eq_getElem?_getD, List.getElem?_eq_none (by rw [List.length_append]; show D.length + 1 ≤ k; omega), List.getElem?_eq_none (by omega)]
theorem tx_app {D : mt_D} {w : List Int} (h : tx D) (h0 : 0 < w.length) (h9 : w.length ≤ 9) (h3 : let3 w) : tx (D ++ [w]) := by
  obtain ⟨g1, g2, g3⟩ := h
  refine ⟨fun k hk => ?_, fun k => ?_, fun k => ?_⟩
  · rw [List.length_append] at hk
    have hk : k < D.length + 1 := hk
    unfold lenD
    rw [getD_app]
    split
    · exact h0
    · exact g1 k (by omega)
  · unfold lenD
    rw [getD_app]
    split
    · exact h9
    · exact g2 k
  · rw [getD_app]
    split
    · exact h3
    · exact g3 k
theorem totD_app {D : mt_D} {w : List Int} : ∀ s : Nat, s ≤ D.length → totD (D ++ [w]) s = totD D s
  | 0, _ => rfl
  | s + 1, h => by
    simp only [totD]
    rw [totD_app s (by omega)]
    unfold lenD
    rw [app_lt (by omega)]
theorem lenD_app {D : mt_D} {w : List Int} : lenD (D ++ [w]) D.length = w.length := by
  unfold lenD
  rw [app_eq]
theorem tot9 {D : mt_D} (h : ∀ k, lenD D k ≤ 9) : ∀ s : Nat, totD D s ≤ 9 * s
  | 0 => Nat.le_refl _
  | s + 1 => by
    simp only [totD]
    have := tot9 h s
    have := h s
    omega
theorem GT_mono {o b ta m N n k : Nat} {D P : mt_D} {w : List Int} {E : Option mt_D} {bb : Bool} {σ : mx_S} (h : GT o b ta m N D w P E bb n σ) (hn : n ≤ k) : GT o b ta m N D w P E bb k σ := ⟨h.1, h.2.1, bd_mono h.2.2 hn⟩
theorem law_153 {kb wb o b ta m N n k : Nat} {D P : mt_D} {w : List Int} {E : Option mt_D} {bb : Bool} {σ : mx_S} {Q : mx_R → Prop} (h : GT o b ta m N D w P E bb n σ) (hx : tx D) (hm : m ≤ 3) (hk : k < D.length) (K : mx_J YL_law kb wb 86 [some (mR b), some (mR o), some (mI 1), some (mI (m : Int)), some (mR ta), some (mI (totD D (k + 1) : Nat)), some (mI ((k + 1 : Nat) : Int)), none, none, none, none, none, none, none, none, none, none, none, none, none, none, none, none] [] σ Q) : mx_J YL_law kb wb 153 [some (mR b), some (mR o), some (mI 1), some (mI (m : Int)), some (mR ta), some (mI (totD D k : Nat)), some (mI (k : Int)), none, none, none, none, none, none, none, none, none, none, none, none, none, none, none, none] [mI 1, mI 1] σ Q := by
  obtain ⟨f, a, g, t1, t2, t3, t4, t5, -⟩ := LT_txt h.2.1 hk
  have u1 := tot9 hx.2.1 k
  have u2 := hx.2.1 k
  have u3 := h.2.1.2.2.2.2.2.2.1
  refine B_YL_law_153 ⟨_, _, _, t1, by decide, by omega, t5, a, t2, _, _, _, t3, ?_⟩
  rw [and_11, wl_a (by omega), wl_1 (by omega)]
  exact K
theorem law_B {kb wb : Nat} (hkb : 5000 ≤ kb) (hwb : 540000 ≤ wb) {o b ta m : Nat} {Q : mx_R → Prop} (hm : m ≤ 3) (K : ∀ (σ' : mx_S) (D : mt_D) (N : Nat), D.length = m → tx D → GT o b ta m N D [] D none false 300 σ' → ∀ s0 : Int, (s0 = 0 ∨ s0 = -1) → mx_J YL_law kb wb 186 [some (mR b), some (mR o), some (mI 1), some (mI (m : Int)), some (mR ta), some (mI (totD D m : Nat)), some (mI (m : Int)), none, none, none, none, none, none, none, none, none, none, none, none, none, none, none, none] [mI s0] σ' Q) : ∀ (n : Nat) (D : mt_D) (N c : Nat) (σ : mx_S), D.length + n = m → c + 5 * n ≤ 299 → tx D → GT o b ta m N D [] D none false c σ → mx_J YL_law kb wb 86 [some (mR b), some (mR o), some (mI 1), some (mI (m : Int)), some (mR ta), some (mI (totD D D.length : Nat)), some (mI (D.length : Int)), none, none, none, none, none, none, none, none, none, none, none, none, none, none, none, none] [] σ Q := by
  intro n
  induction n with
  | zero =>
    intro D N c σ hn hc hx h
    have hn : D.length = m := hn
    obtain ⟨r, r1, m1⟩ := kL_in h.2.1.1 5 (n := 2) (by omega)
    have hb9 := bd_kb h.2.2 (by omega) hkb hwb
    have h3 := GT_mono h (k := 300) (by omega)
    refine B_YL_law_86 ⟨fun _ => ⟨_, _, m1, hb9.1, hb9.2, fun _ => ?_, fun _ => ?_⟩, fun d => absurd (by omega) d⟩
    · rw [hn]
      exact K σ D N hn hx h3 0 (Or.inl rfl)
    · rw [hn]
      exact K σ D N hn hx h3 (-1) (Or.inr rfl)
  | succ n ih =>
    intro D N c σ hn hc hx h
    obtain ⟨h1, h2, h3⟩ := h
    obtain ⟨g1, g2, g3, g4, g5, g6, g7, f, g8, g9⟩ := h2
    obtain ⟨r, r1, m1⟩ := kL_in g1 (D.length + 1) (n := 9) (by omega)
    have hb9 := bd_kb h3 (by omega) hkb hwb
    have u3 := h3.1
    have u4 := h3.2
    obtain ⟨s1, w, p1, p2, p3, p4, p5, p6, p7, p8, p9, p10⟩ := S_typed h1 g3 (by omega) g2 g1 (fm := 10 + 20 * D.length) (m := r + 1) (by omega) (by omega)
    have hbd1 : bd (c + 1) s1 := ⟨by omega, by omega⟩
    have hb1 := bd_kb hbd1 (by omega) hkb hwb
    have t1 : sH s1 ta = some (.inr (3, m, f)) := (p9 ta (by omega) (by omega)).trans g8
    have p4' := p4
    obtain ⟨gw, v1, v2⟩ := p4'
    refine B_YL_law_86 ⟨fun d => absurd d (by omega), fun _ => ?_⟩
    rw [wl_c (by omega)]
    refine ⟨_, _, m1, hb9.1, hb9.2, ?_⟩
    rw [wl_20 (by omega), wl_c (by omega)]
    refine ⟨_, s1, p10, hb1.1, hb1.2, _, _, _, _, t1, by omega, by omega, by omega, v1, fun s2 e2 => ?_⟩
    rw [Int.toNat_natCast] at e2
    have k2 : ∀ q, q ≠ ta → sH s2 q = sH s1 q := fun q hq => of_wr e2 hq
    have a2 := of_wrA e2
    have b2 : sB s2 = sB s1 := by rw [e2]; rfl
    have n2 : sN s2 = sN s1 := by rw [e2]; rfl
    have c2 : sK s2 = sK s1 := by rw [e2]; rfl
    have d2 : sW s2 = sW s1 := by rw [e2]; rfl
    have hS2 : hS s2 o w D none false := p2.kp (fun q q1 q2 => k2 q (by omega))
    have hx2 := tx_app hx (by omega) (by omega) p3
    have L2 : LT o b ta m (sN σ + 1) (D ++ [w]) s2 := by
      refine ⟨scr_kp g1 ((k2 b (by omega)).trans (p9 b (by omega) (by omega))), g2, by rw [b2, p5]; exact g3, g4, by omega, by omega, by rw [List.length_append]; show D.length + 1 ≤ m; omega, _, a2, fun k hk => ?_⟩
      rw [List.length_append] at hk
      have hk : k < D.length + 1 := hk
      by_cases e : k = D.length
      · refine ⟨sN σ, ?_, by omega, by omega, by omega, ?_⟩
        · unfold upV
          rw [if_pos e]
        · rw [e, app_eq]
          exact p4.kp (k2 _ (by omega))
      · obtain ⟨a, a1, a3, a4, a5, a6⟩ := g9 k (by omega)
        refine ⟨a, ?_, a3, by omega, a5, ?_⟩
        · unfold upV
          rw [if_neg e]
          exact a1
        · rw [app_lt (by omega)]
          exact a6.kp ((k2 a a5).trans (p9 a (by omega) (by omega)))
    have G2 : GT o b ta m (sN σ + 1) (D ++ [w]) w D none false (c + 1) s2 := ⟨hS2, L2, ⟨by rw [c2]; exact hbd1.1, by rw [d2]; exact hbd1.2⟩⟩
    obtain ⟨s3, y1, y2, y3⟩ := S_add hS2 L2.2.2.1 (by omega) (by omega) (by omega)
    refine GT_call G2 (by omega) hkb hwb y1 y2 y3 fun s4 G4 _ => ⟨fun d => absurd rfl d, fun _ => ?_⟩
    have y4 := S_len G4.1 (k := D.length) (by rw [List.length_append]; exact Nat.lt_succ_self _)
    refine GT_call G4 (by omega) hkb hwb G4.1 fx_rf y4 fun s5 G5 _ => ?_
    have hl : D.length < (D ++ [w]).length := by rw [List.length_append]; exact Nat.lt_succ_self _
    have K9 := ih (D ++ [w]) _ _ s5 (by rw [List.length_append]; show D.length + 1 + n = m; omega) (by omega) hx2 G5
    obtain ⟨f2, a9, g, q1, q2, q3, q4, q5, -⟩ := LT_txt G5.2.1 hl
    refine ⟨_, _, _, q1, by decide, by omega, q5, a9, q2, _, _, _, q3, fun d => absurd rfl d, fun _ => ?_⟩
    have K8 := law_153 (kb := kb) (wb := wb) (Q := Q) (k := D.length) G5 hx2 hm hl (by rw [List.length_append] at K9; exact K9)
    rw [totD_app _ (Nat.le_refl _)] at K8
    exact K8
theorem law_C {kb wb : Nat} (hkb : 5000 ≤ kb) (hwb : 540000 ≤ wb) {o b ta m N : Nat} {Q : mx_R → Prop} {D : mt_D} {σ : mx_S} (hm : m ≤ 3) (h0 : 0 < m) (hD : D.length = m) (hx : tx D) (h : GT o b ta m N D [] D none false 300 σ) {s0 : Int} (hs : s0 = 0 ∨ s0 = -1) {l5 l6 : Int} (K : ∀ (σ' : mx_S) (P : mt_D) (E : Option mt_D) (bb : Bool) (x : Int) (w : List Int), GT o b ta m N D w P E bb 310 σ' → vS P E x D → mx_J YL_law kb wb 244 [some (mR b), some (mR o), some (mI 1), some (mI (m : Int)), some (mR ta), some (mI l5), some (mI x), none, none, none, none, none, none, none, none, none, none, none, none, none, none, none, none] [] σ' Q) : mx_J YL_law kb wb 186 [some (mR b), some (mR o), some (mI 1), some (mI (m : Int)), some (mR ta), some (mI l5), some (mI l6), none, none, none, none, none, none, none, none, none, none, none, none, none, none, none, none] [mI s0] σ Q := by
  rcases hs with rfl | rfl
  · refine B_YL_law_186 ⟨fun d => absurd rfl d, fun _ => ?_⟩
    obtain ⟨s1, y1, y2, y3⟩ := S_snap h.1 h.2.1.2.2.1
    refine GT_call h (by omega) hkb hwb y1 y2 y3 fun s2 G2 _ => ⟨fun d => absurd rfl d, fun _ => ?_⟩
    obtain ⟨h1, h2, h3⟩ := G2
    have h2' := h2
    obtain ⟨g1, g2, g3, g4, g5, g6, g7, -⟩ := h2'
    obtain ⟨s3, w, p1, p2, p3, p4, p5, p6, p7, p8, p9, p10⟩ := S_typed h1 g3 (by omega) g2 g1 (fm := 80) (m := 3) (by omega) (by omega)
    have u3 := h3.1
    have u4 := h3.2
    have hbd3 : bd 302 s3 := ⟨by omega, by omega⟩
    have hb3 := bd_kb hbd3 (by omega) hkb hwb
    have L3 : LT o b ta m N D s3 := LT_kp h2 ⟨p5, by omega, fun q q1 q2 => p9 q (by omega) q2⟩
    have G3 : GT o b ta m N D w D (some D) false 302 s3 := ⟨p2, L3, hbd3⟩
    refine B_YL_law_206 ⟨_, s3, p10, hb3.1, hb3.2, ?_⟩
    have hd0 : 0 < D.length := by omega
    obtain ⟨d, D', rfl⟩ : ∃ d D', D = d :: D' := by
      cases D with
      | nil => exact absurd hd0 (Nat.lt_irrefl 0)
      | cons d D' => exact ⟨d, D', rfl⟩
    have hd9 : d.length ≤ 9 := hx.2.1 0
    obtain ⟨s4, z1, z2, z3⟩ := S_ins p2 L3.2.2.1 (by omega) (by omega)
    refine GT_call G3 (by omega) hkb hwb z1 z2 z3 fun s5 G5 k5 => ?_
    obtain ⟨f2, a9, g, q1, q2, q3, q4, q5, -⟩ := LT_txt G5.2.1 hd0
    have c5 := p4.kp ((k5 (sN s2 + 1)).2.2 (sN s2) (by omega) (by omega))
    obtain ⟨gw, v1, v2⟩ := c5
    refine ⟨_, _, _, q1, by decide, by omega, q5, a9, q2, _, _, _, q3, _, _, _, v1, fun e => absurd ?_ e, fun _ => ?_⟩
    · have e0 : lenD (d :: D') 0 = d.length := rfl
      rw [e0, wl_a (by omega)]
    · rw [and_11, and_11]
      exact K s5 _ _ _ 0 _ (GT_mono G5 (by omega)) (Or.inr ⟨rfl, rfl⟩)
  · refine B_YL_law_186 ⟨fun _ => ?_, fun d => absurd (by decide) d⟩
    exact K σ _ _ _ (-1) _ (GT_mono h (by omega)) (Or.inl ⟨rfl, rfl⟩)
