/-! The law's walk: ranks. -/
theorem fl_q : ∀ a : Nat, a < 28 → ∀ b : Nat, b < 28 → 0 < b → (FP.fdiv (FP.i2f (Int32.ofInt a)) (FP.i2f (Int32.ofInt b))) &&& 0x7fffffff ≤ 0x7f800000 ∧ (Op.cmpValue (FP.fcmp (FP.fdiv (FP.i2f (Int32.ofInt a)) (FP.i2f (Int32.ofInt b))) (FP.fdiv (FP.i2f (Int32.ofInt a)) (FP.i2f (Int32.ofInt b)))) .l).toInt = 0 := by decide +kernel
theorem RE_kp {o b ta m N n n' l7 l8 : Nat} {D P P' : mt_D} {w w' : List Int} {E E' : Option mt_D} {bb bb' : Bool} {σ σ' : mx_S} (h : RE o b ta m N D w P E bb n l7 l8 σ) (g : GT o b ta m N D w' P' E' bb' n' σ') (k : kpL o N σ σ') : RE o b ta m N D w' P' E' bb' n' l7 l8 σ' := by
  obtain ⟨h1, h2, h3, h4, h5, f, ⟨h6, h7, h8, h9⟩, h10⟩ := h
  have k2 := k.2.1
  exact ⟨g, h2, h3, h4, h5, f, ⟨(k.2.2 l7 h4 (by omega)).trans h6, (k.2.2 l8 h5 (by omega)).trans h7, by omega, by omega⟩, h10⟩
theorem RE_call {kb wb o b ta m N n l7 l8 : Nat} {D P P' : mt_D} {w w' : List Int} {E E' : Option mt_D} {bb bb' : Bool} {σ σ' : mx_S} {Y : mx_M} {As : List mx_V} {v : Int} {G : Int → mx_S → Prop} (h : RE o b ta m N D w P E bb n l7 l8 σ) (hn : n + 1 ≤ 5000) (hkb : 5000 ≤ kb) (hwb : 540000 ≤ wb) (h' : hS σ' o w' P' E' bb') (F : fx o σ σ') (M : mx_MSN Y As σ (some (mI v)) σ') (K : ∀ σ3, RE o b ta m N D w' P' E' bb' (n + 1) l7 l8 σ3 → (∀ N', kpL o N' σ σ3) → G v σ3) : ∃ (r : Int) (σ' : mx_S), mx_MSN Y As σ (some (mI r)) σ' ∧ sK σ' ≤ kb ∧ sW σ' ≤ wb ∧ ∀ (n4 : Nat) (σ3 : mx_S), sN σ' ≤ n4 → σ3 = mx_at_n σ' n4 → G r σ3 :=
  GT_call h.1 hn hkb hwb h' F M fun σ3 g k => K σ3 (RE_kp h g (k N)) k
theorem RE_at {o b ta m N n l7 l8 : Nat} {D P : mt_D} {w : List Int} {E : Option mt_D} {bb : Bool} {σ : mx_S} (h : RE o b ta m N D w P E bb n l7 l8 σ) {r : Nat} {y : Nat × Nat} (hy : (ordS D m)[r]? = some y) : ∃ g : Nat → Nat × Nat, sH σ l7 = some (.inr (0, totD D m, fun j => mI (((g j).1 : Nat) : Int))) ∧ sH σ l8 = some (.inr (0, totD D m, fun j => mI (((g j).2 : Nat) : Int))) ∧ (fun j => mI (((g j).1 : Nat) : Int)) ((r : Nat) : Int).toNat = mI ((y.1 : Nat) : Int) ∧ (fun j => mI (((g j).2 : Nat) : Int)) ((r : Nat) : Int).toNat = mI ((y.2 : Nat) : Int) ∧ (r : Int) < (totD D m : Nat) := by
  obtain ⟨h1, h2, h3, h4, h5, g, ⟨h6, h7, h8, h9⟩, h10⟩ := h
  have e := h10 r y hy
  have l := (List.getElem?_eq_some_iff.mp hy).1
  rw [ordS_len] at l
  refine ⟨g, h6, h7, ?_, ?_, by omega⟩
  · rw [Int.toNat_natCast]
    show mI (((g r).1 : Nat) : Int) = _
    rw [e]
  · rw [Int.toNat_natCast]
    show mI (((g r).2 : Nat) : Int) = _
    rw [e]
def let4 (j : Nat) : Int := if j = 3 then 36 else 97 + (j : Int)
theorem let4_inj {i j : Nat} (hi : i < 4) (hj : j < 4) (h : let4 i = let4 j) : i = j := by
  unfold let4 at h
  split at h <;> split at h <;> omega
/-- the law's count of the letters ahead of the ranks below r -/
def cL4 (D : mt_D) (r : Nat) (c : Nat → Int) : Prop := ∀ j : Nat, j < 4 → c j = (cn (fun i => decide (trn D (oAt D i) = let4 j)) r : Nat)
theorem cL4_up {D : mt_D} {r j : Nat} {c : Nat → Int} (h : cL4 D r c) (hj : j < 4) (ht : trn D (oAt D r) = let4 j) : cL4 D (r + 1) (fun i => if i = j then c j + 1 else c i) := fun i hi => by
  show (if i = j then c j + 1 else c i) = ((cn (fun k => decide (trn D (oAt D k) = let4 i)) r + (if decide (trn D (oAt D r) = let4 i) = true then 1 else 0) : Nat) : Int)
  by_cases e : i = j
  · subst e
    rw [if_pos rfl, if_pos (by rw [ht]; exact decide_eq_true rfl), h i hi]
    omega
  · rw [if_neg e, if_neg (fun q => e (let4_inj hi hj ((of_decide_eq_true q).symm.trans ht))), h i hi]
    omega
theorem law_660 {kb wb : Nat} (hkb : 5000 ≤ kb) (hwb : 540000 ≤ wb) {o b ta m N n l7 l8 l12 r j : Nat} {y : Nat × Nat} {D P : mt_D} {w : List Int} {E : Option mt_D} {bb : Bool} {σ : mx_S} {Q : mx_R → Prop} {l5 x l9 l10 l11 l14 : Int} (h : RE o b ta m N D w P E bb n l7 l8 σ) (hn : n + 3 ≤ 5000) (hD : D.length = m) (hm : m ≤ 3) (hx : tx D) (hv : vS P E x D) (hy : (ordS D m)[r]? = some y) (hl : N ≤ l12) (hl2 : l12 < sN σ) {c : Nat → Int} (h12 : sH σ l12 = some (.inr (0, 4, fun j => mI (c j)))) (hj : j < 4) (hc : 0 ≤ c j ∧ c j ≤ 1000)
    (K : ∀ σ', RE o b ta m N D w P E bb (n + 3) l7 l8 σ' → l12 < sN σ' → sH σ' l12 = some (.inr (0, 4, fun i => mI (if i = j then c j + 1 else c i))) → mx_J YL_law kb wb 546 [some (mR b), some (mR o), some (mI 1), some (mI (m : Int)), some (mR ta), some (mI l5), some (mI x), some (mR l7), some (mR l8), some (mI l9), some (mI l10), some (mI l11), some (mR l12), some (mI ((r + 1 : Nat) : Int)), none, none, none, none, none, none, none, none, none] [] σ' Q) : mx_J YL_law kb wb 660 [some (mR b), some (mR o), some (mI 1), some (mI (m : Int)), some (mR ta), some (mI l5), some (mI x), some (mR l7), some (mR l8), some (mI l9), some (mI l10), some (mI l11), some (mR l12), some (mI (r : Int)), some (mI l14), some (mI (j : Int)), none, none, none, none, none, none, none] [mI 1, mI 1] σ Q := by
  have hB : sB σ ≤ l12 := by
    have q1 := h.1.2.1.2.2.1
    have q2 := h.1.2.1.2.2.2.1
    have q3 := h.1.2.1.2.2.2.2.1
    omega
  have h85 : o + 85 ≤ l12 := by
    have q2 := h.1.2.1.2.2.2.1
    have q3 := h.1.2.1.2.2.2.2.1
    omega
  have hr : r ≤ 100 := by
    have l := (List.getElem?_eq_some_iff.mp hy).1
    rw [ordS_len] at l
    have := tot9 hx.2.1 m
    omega
  refine B_YL_law_660 ⟨_, _, h12, by omega, by omega, c j, by rw [Int.toNat_natCast], _, _, h12, hB, by omega, by omega, fun s1 e1 => ?_⟩
  have e1 : s1 = mx_wr σ l12 (.inr (0, 4, fun i => mI (if i = j then c j + 1 else c i))) := by rw [e1, up_I, Int.toNat_natCast, mx_w_id (by omega) (by omega)]
  have k1 : kpL o N σ s1 := ⟨by rw [e1]; rfl, by rw [e1]; exact Nat.le_refl _, fun q q1 _ => of_wr e1 (by omega)⟩
  have R1 := RE_kp h (GT_wr h.1 hl e1) k1
  have n1 : sN s1 = sN σ := by rw [e1]; rfl
  have a1 := of_wrA e1
  have hy' : (ordS D D.length)[r]? = some y := by rw [hD]; exact hy
  obtain ⟨s2, x1, x2, x3⟩ := S_suffD R1.1.1 R1.1.2.1.2.2.1 hv hy'
  refine RE_call R1 (by omega) hkb hwb x1 x2 x3 fun s3 R3 k3 => ?_
  obtain ⟨g, t1, t2, t3, t4, t5⟩ := RE_at R3 hy
  refine ⟨_, _, t1, by omega, t5, _, t3, fun d => absurd rfl d, fun _ => ?_⟩
  obtain ⟨s4, y1, y2, y3⟩ := S_suffP R3.1.1 R3.1.2.1.2.2.1 hv hy'
  refine RE_call R3 (by omega) hkb hwb y1 y2 y3 fun s5 R5 k5 => ?_
  obtain ⟨g, t1, t2, t3, t4, t5⟩ := RE_at R5 hy
  refine ⟨_, _, t2, by omega, t5, _, t4, fun d => absurd rfl d, fun _ => ⟨_, _, t1, by omega, t5, _, t3, _, _, t2, by omega, t5, _, t4, ?_⟩⟩
  obtain ⟨s6, z1, z2, z3⟩ := S_rank R5.1.1 R5.1.2.1.2.2.1 hv hy'
  refine RE_call R5 (by omega) hkb hwb z1 z2 z3 fun s7 R7 k7 => ⟨fun d => absurd rfl d, fun _ => ?_⟩
  refine B_YL_law_734 ?_
  rw [and_11, and_11, wl_1 (by omega)]
  have f3 := (k3 (l12 + 1)).2
  have f5 := (k5 (l12 + 1)).2
  have f7 := (k7 (l12 + 1)).2
  have e3 := f3.2 l12 (Nat.lt_succ_self _) (Or.inr h85)
  have e5 := f5.2 l12 (Nat.lt_succ_self _) (Or.inr h85)
  have e7 := f7.2 l12 (Nat.lt_succ_self _) (Or.inr h85)
  exact K s7 R7 (by omega) (e7.trans (e5.trans (e3.trans a1)))
theorem law_621 {kb wb : Nat} (hkb : 5000 ≤ kb) (hwb : 540000 ≤ wb) {o b ta m N n l7 l8 l12 r j : Nat} {y : Nat × Nat} {D P : mt_D} {w : List Int} {E : Option mt_D} {bb : Bool} {σ : mx_S} {Q : mx_R → Prop} {l5 x l9 l10 l11 l14 : Int} (h : RE o b ta m N D w P E bb n l7 l8 σ) (hn : n + 5 ≤ 5000) (hD : D.length = m) (hm : m ≤ 3) (hx : tx D) (hv : vS P E x D) (hy : (ordS D m)[r]? = some y) (hl : N ≤ l12) (hl2 : l12 < sN σ) {c : Nat → Int} (h12 : sH σ l12 = some (.inr (0, 4, fun j => mI (c j)))) (hj : j < 4) (hc : cL4 D r c) (ht : trn D y = let4 j) (hl14 : l14 = let4 j)
    (K : ∀ σ' c', RE o b ta m N D w P E bb (n + 5) l7 l8 σ' → l12 < sN σ' → sH σ' l12 = some (.inr (0, 4, fun i => mI (c' i))) → cL4 D (r + 1) c' → mx_J YL_law kb wb 546 [some (mR b), some (mR o), some (mI 1), some (mI (m : Int)), some (mR ta), some (mI l5), some (mI x), some (mR l7), some (mR l8), some (mI l9), some (mI l10), some (mI l11), some (mR l12), some (mI ((r + 1 : Nat) : Int)), none, none, none, none, none, none, none, none, none] [] σ' Q) : mx_J YL_law kb wb 621 [some (mR b), some (mR o), some (mI 1), some (mI (m : Int)), some (mR ta), some (mI l5), some (mI x), some (mR l7), some (mR l8), some (mI l9), some (mI l10), some (mI l11), some (mR l12), some (mI (r : Int)), some (mI l14), none, none, none, none, none, none, none, none] [mI (j : Int)] σ Q := by
  subst hl14
  have h85 : o + 85 ≤ l12 := by
    have q2 := h.1.2.1.2.2.2.1
    have q3 := h.1.2.1.2.2.2.2.1
    omega
  have hy' : (ordS D D.length)[r]? = some y := by rw [hD]; exact hy
  have hr : r < totD D D.length := ord_lt hy'
  have hr2 : r ≤ 100 := by
    have := tot9 hx.2.1 D.length
    omega
  have hl4 : let4 j = 36 ∨ (97 ≤ let4 j ∧ let4 j ≤ 101) := by
    unfold let4
    split
    · exact Or.inl rfl
    · exact Or.inr (by omega)
  have oy : oAt D r = y := getD_of hy'
  obtain ⟨s2, x1, x2, x3⟩ := S_ahead h.1.1 h.1.2.1.2.2.1 hv hl4 (r := r) (Nat.le_of_lt hr)
  refine B_YL_law_621 (RE_call h (by omega) hkb hwb x1 x2 x3 fun s3 R3 k3 => ?_)
  have f3 := (k3 (l12 + 1)).2
  have e3 := f3.2 l12 (Nat.lt_succ_self _) (Or.inr h85)
  refine ⟨_, _, e3.trans h12, by omega, by omega, c j, by rw [Int.toNat_natCast], fun d => absurd (hc j hj).symm d, fun _ => ?_⟩
  obtain ⟨s4, y1, y2, y3⟩ := S_turn R3.1.1 R3.1.2.1.2.2.1 hv hy'
  refine RE_call R3 (by omega) hkb hwb y1 y2 y3 fun s5 R5 k5 => ⟨fun d => absurd ht d, fun _ => ?_⟩
  have f5 := (k5 (l12 + 1)).2
  have e5 := f5.2 l12 (Nat.lt_succ_self _) (Or.inr h85)
  have hcj := hc j hj
  have hcn := cn_le (fun i => decide (trn D (oAt D i) = let4 j)) r
  exact law_660 hkb hwb R5 (by omega) hD hm hx hv hy hl (by omega) (e5.trans (e3.trans h12)) hj (by omega) fun σ' R' q1 q2 => K σ' _ R' q1 q2 (cL4_up hc hj (by rw [oy]; exact ht))
