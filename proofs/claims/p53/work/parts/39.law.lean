/-! The law's walk: over all ranks. -/
theorem tx_let {D : mt_D} (h : tx D) : letD D := fun k x hx => by have := h.2.2 k x hx; omega
theorem RE_mono {o b ta m N n n' l7 l8 : Nat} {D P : mt_D} {w : List Int} {E : Option mt_D} {bb : Bool} {σ : mx_S} (h : RE o b ta m N D w P E bb n l7 l8 σ) (hn : n ≤ n') : RE o b ta m N D w P E bb n' l7 l8 σ := ⟨GT_mono h.1 hn, h.2⟩
theorem GT_ms {o b ta m N n : Nat} {D P P' : mt_D} {w w' : List Int} {E E' : Option mt_D} {bb bb' : Bool} {σ σ' : mx_S} (h : GT o b ta m N D w P E bb n σ) (h' : hS σ' o w' P' E' bb') (F : fx o σ σ') : GT o b ta m N D w' P' E' bb' (n + 1) σ' ∧ ∀ N', kpL o N' σ σ' :=
  ⟨⟨h', LT_kp h.2.1 (fx_kp F (Nat.le_refl _)), bd_fx (k := sN σ') h.2.2 F⟩, fun _ => fx_kp F (Nat.le_refl _)⟩
theorem ct_cong {D : mt_D} {q q' : Nat × Nat → Bool} (h : ∀ y : Nat × Nat, y.2 < lenD D y.1 → q y = q' y) : ∀ s : Nat, ctD D q s = ctD D q' s
  | 0 => rfl
  | s + 1 => by
    simp only [ctD]
    rw [ct_cong h s, cn_cong fun k hk => h (s, k) hk]
theorem cnt36 {D : mt_D} (hx : tx D) : cn (fun i => decide (trn D (oAt D i) = 36)) (totD D D.length) = D.length := by
  rw [← ordS_len, vCn (fun y => decide (trn D y = 36)) (fun i y hy => by show decide (trn D (oAt D i) = 36) = _; rw [show oAt D i = y from getD_of hy]), ct_cong (q' := fun y => decide (y.2 = 0)) (fun y hy => decide_eq_decide.mpr (trn_36 (tx_let hx) hy))]
  exact ct_beg hx.1 _ (Nat.le_refl _)
/-- the letter ahead of the rank before -/
noncomputable def lst (D : mt_D) (r : Nat) : Int := if r = 0 then 32 else trn D (oAt D (r - 1))
theorem trn_let {D : mt_D} (hx : tx D) {y : Nat × Nat} (h : y.2 < lenD D y.1) : ∃ j : Nat, j < 4 ∧ trn D y = let4 j := by
  unfold trn
  by_cases c : y.2 = 0
  · exact ⟨3, by decide, by rw [if_pos c]; rfl⟩
  · have q := tx_at hx (k := y.1) (p := y.2 - 1) (by omega)
    refine ⟨((D.getD y.1 []).getD (y.2 - 1) 0 - 97).toNat, by omega, ?_⟩
    rw [if_neg c]
    unfold let4
    rw [if_neg (by omega)]
    omega
theorem law_582 {kb wb : Nat} (hkb : 5000 ≤ kb) (hwb : 540000 ≤ wb) {o b ta m N n l7 l8 l12 r : Nat} {y : Nat × Nat} {D P : mt_D} {w : List Int} {E : Option mt_D} {bb : Bool} {σ : mx_S} {Q : mx_R → Prop} {l5 x l9 : Int} (h : RE o b ta m N D w P E bb n l7 l8 σ) (hn : n + 5 ≤ 5000) (hD : D.length = m) (hm : m ≤ 3) (hx : tx D) (hv : vS P E x D) (hy : (ordS D m)[r]? = some y) (hl : N ≤ l12) (hl2 : l12 < sN σ) {c : Nat → Int} (h12 : sH σ l12 = some (.inr (0, 4, fun j => mI (c j)))) (hc : cL4 D r c)
    (K : ∀ σ' c', RE o b ta m N D w P E bb (n + 5) l7 l8 σ' → l12 < sN σ' → sH σ' l12 = some (.inr (0, 4, fun i => mI (c' i))) → cL4 D (r + 1) c' → mx_J YL_law kb wb 546 [some (mR b), some (mR o), some (mI 1), some (mI (m : Int)), some (mR ta), some (mI l5), some (mI x), some (mR l7), some (mR l8), some (mI l9), some (mI (cn (runD D) (r + 1) : Nat)), some (mI (lst D (r + 1))), some (mR l12), some (mI ((r + 1 : Nat) : Int)), none, none, none, none, none, none, none, none, none] [] σ' Q) : mx_J YL_law kb wb 582 [some (mR b), some (mR o), some (mI 1), some (mI (m : Int)), some (mR ta), some (mI l5), some (mI x), some (mR l7), some (mR l8), some (mI l9), some (mI (cn (runD D) r : Nat)), some (mI (lst D r)), some (mR l12), some (mI (r : Int)), none, none, none, none, none, none, none, none, none] [mI (trn D y)] σ Q := by
  have hy' : (ordS D D.length)[r]? = some y := by rw [hD]; exact hy
  have hr : r < totD D D.length := ord_lt hy'
  have hr2 : r ≤ 100 := by
    have := tot9 hx.2.1 D.length
    omega
  have oy : oAt D r = y := getD_of hy'
  have hcn := cn_le (runD D) r
  have ya := ordS_at hy
  obtain ⟨j, hj, ht⟩ := trn_let hx ya.2
  have eL : lst D (r + 1) = trn D y := by
    unfold lst
    rw [if_neg (Nat.succ_ne_zero r), Nat.add_sub_cancel, oy]
  have M598 : ∀ d : Nat, (d = if runD D r = true then 1 else 0) → mx_J YL_law kb wb 598 [some (mR b), some (mR o), some (mI 1), some (mI (m : Int)), some (mR ta), some (mI l5), some (mI x), some (mR l7), some (mR l8), some (mI l9), some (mI (cn (runD D) r : Nat)), some (mI (lst D r)), some (mR l12), some (mI (r : Int)), some (mI (trn D y)), none, none, none, none, none, none, none, none] [mI (d : Int), mI (cn (runD D) r : Nat)] σ Q := fun d hd => by
    have hd1 : d ≤ 1 := by
      rw [hd]
      split <;> decide
    have e1 : cn (runD D) (r + 1) = cn (runD D) r + d := by rw [hd]; rfl
    rw [e1, eL] at K
    refine B_YL_law_598 ?_
    rw [wl_a (by omega)]
    refine ⟨fun q => ?_, fun q => ?_⟩
    · have hj3 : j ≠ 3 := fun e => q (by rw [ht, e]; rfl)
      have e2 : mx_w (trn D y - 97) = (j : Int) := by
        rw [ht]
        unfold let4
        rw [if_neg hj3, mx_w_id (by omega) (by omega)]
        omega
      rw [e2]
      exact law_621 hkb hwb h hn hD hm hx hv hy hl hl2 h12 hj hc ht ht K
    · have hj3 : j = 3 := let4_inj hj (by decide) (ht.symm.trans (Decidable.not_not.mp q))
      subst hj3
      exact law_621 hkb hwb h hn hD hm hx hv hy hl hl2 h12 hj hc ht ht K
  have hrun : runD D r = true ↔ ¬ trn D y = lst D r := by
    unfold runD lst
    rw [oy, decide_eq_true_iff]
    by_cases c0 : r = 0
    · rw [if_pos c0]
      refine ⟨fun _ e => ?_, fun _ => Or.inl c0⟩
      rw [ht] at e
      unfold let4 at e
      split at e <;> omega
    · rw [if_neg c0]
      exact ⟨fun q => q.resolve_left c0, fun q => Or.inr q⟩
  exact B_YL_law_582 ⟨fun q => M598 1 (by rw [if_pos (hrun.mpr q)]), fun q => M598 0 (by rw [if_neg (fun z => q (hrun.mp z))])⟩
theorem law_546 {kb wb : Nat} (hkb : 5000 ≤ kb) (hwb : 540000 ≤ wb) {o b ta m N l7 l8 l12 : Nat} {D P : mt_D} {w : List Int} {E : Option mt_D} {bb : Bool} {Q : mx_R → Prop} {x l9 : Int} (hD : D.length = m) (hm : m ≤ 3) (h0 : 0 < m) (hx : tx D) (hv : vS P E x D) (hl : N ≤ l12)
    (K : ∀ σ' l10 l11 l13, RE o b ta m N D w P E bb 1000 l7 l8 σ' → mx_J YL_law kb wb 803 [some (mR b), some (mR o), some (mI 1), some (mI (m : Int)), some (mR ta), some (mI (totD D m : Nat)), some (mI x), some (mR l7), some (mR l8), some (mI l9), some (mI l10), some (mI l11), some (mR l12), some (mI l13), none, none, none, none, none, none, none, none, none] [mI 1, mI 1] σ' Q) :
    ∀ (k r n : Nat) (σ : mx_S) (c : Nat → Int), r + k = totD D m → n + 5 * k ≤ 990 → RE o b ta m N D w P E bb n l7 l8 σ → l12 < sN σ → sH σ l12 = some (.inr (0, 4, fun j => mI (c j))) → cL4 D r c → mx_J YL_law kb wb 546 [some (mR b), some (mR o), some (mI 1), some (mI (m : Int)), some (mR ta), some (mI (totD D m : Nat)), some (mI x), some (mR l7), some (mR l8), some (mI l9), some (mI (cn (runD D) r : Nat)), some (mI (lst D r)), some (mR l12), some (mI (r : Int)), none, none, none, none, none, none, none, none, none] [] σ Q := by
  have u1 := tot9 hx.2.1 m
  intro k
  induction k with
  | zero =>
    intro r n σ c hr hn h hl2 h12 hc
    have hr : r = totD D m := hr
    subst hr
    subst hD
    have hpos : 0 < totD D D.length := by
      have q1 : totD D 1 ≤ totD D D.length := totD_mono _ (by omega)
      have q2 : totD D 1 = 0 + lenD D 0 := rfl
      have q3 := hx.1 0 h0
      omega
    have hcn := cn_le (runD D) (totD D D.length)
    have fq := fl_q (cn (runD D) (totD D D.length)) (by omega) (totD D D.length) (by omega) hpos
    obtain ⟨s2, x1, x2, x3⟩ := S_runs h.1.1 h.1.2.1.2.2.1 hv
    refine B_YL_law_546 ⟨fun _ => RE_call h (by omega) hkb hwb x1 x2 x3 fun s3 R3 k3 => ⟨fun d => absurd rfl d, fun _ => ?_⟩, fun d => absurd (Int.le_refl _) d⟩
    obtain ⟨s4, y1, y2, y3⟩ := S_turnX R3.1.1 R3.1.2.1.2.2.1 hv (Nat.le_refl _)
    refine RE_call R3 (by omega) hkb hwb y1 y2 y3 fun s5 R5 k5 => ⟨fun d => absurd rfl d, fun _ => ?_⟩
    obtain ⟨s6, z1, z2, z3⟩ := S_ahead R5.1.1 R5.1.2.1.2.2.1 hv (l := 36) (Or.inl rfl) (Nat.le_refl _)
    rw [cnt36 hx] at z3
    refine RE_call R5 (by omega) hkb hwb z1 z2 z3 fun s7 R7 k7 => ⟨fun d => absurd rfl d, fun _ => ?_⟩
    obtain ⟨s8, t1, t2, t3⟩ := S_share R7.1.1 R7.1.2.1.2.2.1 hv hpos fq.1
    obtain ⟨G8, k8⟩ := GT_ms R7.1 t1 t2
    have R8 := RE_kp R7 G8 (k8 N)
    have hb := bd_kb G8.2.2 (by omega) hkb hwb
    obtain ⟨fs, hd⟩ := R7.1.1.hd
    exact ⟨fs, hd, Or.inl ⟨_, s8, t3, hb.1, hb.2, fq.1, fun d => absurd fq.2 d, fun _ => K s8 _ _ _ (RE_mono R8 (by omega))⟩⟩
  | succ k ih =>
    intro r n σ c hr hn h hl2 h12 hc
    have hr3 : r < (ordS D m).length := by rw [ordS_len]; omega
    obtain ⟨y, hy⟩ : ∃ y, (ordS D m)[r]? = some y := ⟨_, List.getElem?_eq_getElem hr3⟩
    have ya := ordS_at hy
    obtain ⟨g, t1, t2, t3, t4, t5⟩ := RE_at h hy
    have K5 := law_582 (kb := kb) (wb := wb) (Q := Q) (l5 := ((totD D m : Nat) : Int)) (l9 := l9) hkb hwb h (by omega) hD hm hx hv hy hl hl2 h12 hc fun s1 c1 r1 r2 r3 r4 => ih (r + 1) (n + 5) s1 c1 (by omega) (by omega) r1 r2 r3 r4
    refine B_YL_law_546 ⟨fun d => absurd d (by omega), fun _ => ⟨_, _, t2, by omega, t5, _, t4, fun d => ?_, fun d => ?_⟩⟩
    · have hy0 : 0 < y.2 := by omega
      obtain ⟨f, a, g9, q1, q2, q3, q4, q5, -⟩ := LT_txt h.1.2.1 (k := y.1) (by omega)
      have u2 := hx.2.1 y.1
      refine ⟨_, _, t1, by omega, t5, _, t3, _, _, _, q1, by decide, by omega, q5, a, q2, _, _, t2, by omega, t5, _, t4, ?_⟩
      rw [wl_m (by omega) (by omega)]
      refine ⟨_, _, q3, by omega, by omega, _, rfl, ?_⟩
      rw [Int.toNat_natCast, q4 _ (by omega)]
      have e : trn D y = (D.getD y.1 []).getD (y.2 - 1) 0 := by
        unfold trn
        rw [if_neg (by omega)]
      rw [← e]
      exact K5
    · have e : trn D y = 36 := by
        unfold trn
        rw [if_pos (by omega)]
      rw [e] at K5
      exact K5
