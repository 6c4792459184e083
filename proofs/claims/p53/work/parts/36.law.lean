/-! The law's walk: its insertion sort. -/
def SE (o b ta m N : Nat) (D : mt_D) (w : List Int) (P : mt_D) (E : Option mt_D) (bb : Bool) (n l7 l8 M : Nat) (g : Nat → Nat × Nat) (σ : mx_S) : Prop := GT o b ta m N D w P E bb n σ ∧ aL l7 l8 M g σ
/-- where the two arrays lie -/
def SP (o N l7 l8 : Nat) (σ : mx_S) : Prop := N ≤ l7 ∧ N ≤ l8 ∧ l7 ≠ l8
theorem SE_wr {o b ta m N n l7 l8 M a : Nat} {D P : mt_D} {w : List Int} {E : Option mt_D} {bb : Bool} {g : Nat → Nat × Nat} {σ s1 s2 : mx_S} {x1 x2 : Int} (h : SE o b ta m N D w P E bb n l7 l8 M g σ) (p1 : N ≤ l7) (p2 : N ≤ l8) (p3 : l7 ≠ l8) (v : Nat × Nat) (hx1 : x1 = (v.1 : Nat)) (hx2 : x2 = (v.2 : Nat)) (e1 : s1 = mx_wr σ l7 (.inr (0, M, upV (fun j => mI (((g j).1 : Nat) : Int)) a (mI x1)))) (e2 : s2 = mx_wr s1 l8 (.inr (0, M, upV (fun j => mI (((g j).2 : Nat) : Int)) a (mI x2)))) : SE o b ta m N D w P E bb n l7 l8 M (fun j => if j = a then v else g j) s2 := by
  refine ⟨GT_wr (GT_wr h.1 p1 e1) p2 e2, ?_, ?_, (by rw [e2, e1]; exact h.2.2.2.1), (by rw [e2, e1]; exact h.2.2.2.2)⟩
  · rw [← up_g1 hx1]
    exact (of_wr e2 p3).trans (of_wrA e1)
  · rw [← up_g2 hx2]
    exact of_wrA e2
theorem law_289 {kb wb o b ta m N n k p l7 l8 M : Nat} {D P : mt_D} {w : List Int} {E : Option mt_D} {bb : Bool} {Q : mx_R → Prop} {l5 x l9 : Int} (hx : tx D) (p1 : N ≤ l7) (p2 : N ≤ l8) (p3 : l7 ≠ l8) (hk : k < D.length) (hp : p < lenD D k) {L : List (Nat × Nat)} (hs : srt D L) (hL : ∀ y ∈ L, y.1 < D.length ∧ y.2 < lenD D y.1 ∧ y.1 ≤ k ∧ y ≠ (k, p)) (hM : L.length < M) (hM9 : M ≤ 1000)
    (K : ∀ (a : Nat) (g : Nat → Nat × Nat) (σ : mx_S) (l13 : Int), pos_ D L (k, p) a → SE o b ta m N D w P E bb n l7 l8 M g σ → (∀ i y, i < a → L[i]? = some y → g i = y) → (∀ i y, a ≤ i → L[i]? = some y → g (i + 1) = y) → mx_J YL_law kb wb 502 [some (mR b), some (mR o), some (mI 1), some (mI (m : Int)), some (mR ta), some (mI l5), some (mI x), some (mR l7), some (mR l8), some (mI l9), some (mI (k : Int)), some (mI (p : Int)), some (mI (a : Int)), some (mI l13), none, none, none, none, none, none, none, none, none] [] σ Q) :
    ∀ (a : Nat) (g : Nat → Nat × Nat) (σ : mx_S), a ≤ L.length → SE o b ta m N D w P E bb n l7 l8 M g σ → (∀ i y, i < a → L[i]? = some y → g i = y) → (∀ i y, a ≤ i → L[i]? = some y → g (i + 1) = y) → (∀ i y, a ≤ i → L[i]? = some y → lt_ D (k, p) y) → mx_J YL_law kb wb 289 [some (mR b), some (mR o), some (mI 1), some (mI (m : Int)), some (mR ta), some (mI l5), some (mI x), some (mR l7), some (mR l8), some (mI l9), some (mI (k : Int)), some (mI (p : Int)), some (mI (a : Int)), some (mI 1), none, none, none, none, none, none, none, none, none] [] σ Q := by
  have hP : posD D := fun k x hx' => by have := hx.2.2 k x hx'; omega
  intro a
  induction a with
  | zero =>
    intro g σ ha h lo up lt
    refine B_YL_law_289 ⟨fun _ => K 0 g σ 1 ⟨Nat.zero_le _, fun i y hi => absurd hi (Nat.not_lt_zero _), fun i y hi hy q => lt_ir (lt_tr hP q (lt i y hi hy))⟩ h lo up, fun d => absurd (Int.le_refl 0) d⟩
  | succ a ih =>
    intro g σ ha h lo up lt
    have hy : L[a]? = some L[a] := List.getElem?_eq_getElem (by omega)
    obtain ⟨y, ey⟩ : ∃ y, y = L[a] := ⟨_, rfl⟩
    rw [← ey] at hy
    have hyL : y ∈ L := List.mem_of_getElem? hy
    obtain ⟨y1, y2, y3, y4⟩ := hL y hyL
    have ga : g a = y := lo a y (Nat.lt_succ_self _) hy
    obtain ⟨h1, h7, h8, -⟩ := id h
    obtain ⟨f, ay, gy, t1, t2, t3, t4, t5, t6⟩ := LT_txt h1.2.1 y1
    have hB : sB σ ≤ N := by
      have q1 := h1.2.1.2.2.1
      have q2 := h1.2.1.2.2.2.1
      have q3 := h1.2.1.2.2.2.2.1
      omega
    have K7 : ∀ l13 : Int, l13 = 0 → pos_ D L (k, p) (a + 1) → mx_J YL_law kb wb 289 [some (mR b), some (mR o), some (mI 1), some (mI (m : Int)), some (mR ta), some (mI l5), some (mI x), some (mR l7), some (mR l8), some (mI l9), some (mI (k : Int)), some (mI (p : Int)), some (mI ((a + 1 : Nat) : Int)), some (mI l13), none, none, none, none, none, none, none, none, none] [] σ Q := fun l13 e hq => by
      subst e
      exact B_YL_law_289 ⟨fun d => absurd d (by omega), fun _ => ⟨fun _ => K (a + 1) g σ 0 hq h lo up, fun d => absurd rfl d⟩⟩
    refine B_YL_law_289 ⟨fun d => absurd d (by omega), fun _ => ⟨fun d => absurd d (by decide), fun _ => ?_⟩⟩
    rw [wl_m (by omega) (by omega), Nat.add_sub_cancel]
    have r7 : (fun j => mI (((g j).1 : Nat) : Int)) ((a : Nat) : Int).toNat = mI ((y.1 : Nat) : Int) := by rw [Int.toNat_natCast]; show mI (((g a).1 : Nat) : Int) = _; rw [ga]
    have r8 : (fun j => mI (((g j).2 : Nat) : Int)) ((a : Nat) : Int).toNat = mI ((y.2 : Nat) : Int) := by rw [Int.toNat_natCast]; show mI (((g a).2 : Nat) : Int) = _; rw [ga]
    refine ⟨_, _, h7, by omega, by omega, _, r7, _, _, _, t1, by decide, by omega, t5, ay, t2, _, _, h8, by omega, by omega, _, r8, ?_⟩
    refine law_323 h1 hx hk t6 (fun v l16 l17 l18 hv => ?_) (lenD D k - p) 0 (by omega) (by omega) rfl
    by_cases c : cmpL (suf D (k, p)) (suf D y) < 0
    · rw [if_pos c] at hv
      subst hv
      refine B_YL_law_465 ⟨fun d => absurd d (by decide), fun _ => ?_⟩
      rw [wl_m (by omega) (by omega), wl_n (by omega) (by omega), Nat.add_sub_cancel]
      refine ⟨_, _, h7, by omega, by omega, _, r7, _, _, h7, by omega, by omega, by omega, fun s1 e1 => ⟨_, _, (of_wr e1 (Ne.symm p3)).trans h8, by omega, by omega, _, r8, _, _, (of_wr e1 (Ne.symm p3)).trans h8, by rw [e1]; show sB σ ≤ l8; omega, by omega, by omega, fun s2 e2 => ?_⟩⟩
      rw [Int.toNat_natCast] at e1 e2
      refine B_YL_law_499 (ih _ s2 (by omega) (SE_wr h p1 p2 p3 y rfl rfl e1 e2) (fun i z hi hz => ?_) (fun i z hi hz => ?_) (fun i z hi hz => ?_))
      · show (if i = a + 1 then y else g i) = z
        rw [if_neg (by omega)]
        exact lo i z (by omega) hz
      · show (if i + 1 = a + 1 then y else g (i + 1)) = z
        by_cases ei : i = a
        · rw [if_pos (by omega)]
          subst ei
          rw [hy] at hz
          exact Option.some.inj hz
        · rw [if_neg (by omega)]
          exact up i z (by omega) hz
      · by_cases ei : i = a
        · subst ei
          rw [hy] at hz
          cases hz
          exact Or.inl c
        · exact lt i z (by omega) hz
    · rw [if_neg c] at hv
      subst hv
      refine B_YL_law_465 ⟨fun _ => B_YL_law_499 (K7 0 rfl ?_), fun d => absurd rfl d⟩
      have n1 : ¬ lt_ D (k, p) y := fun q => by
        rcases q with q | q
        · exact c q
        · have := q.2
          have : k < y.1 := this
          omega
      have n2 : lt_ D y (k, p) := lt_tot hP hp y2 (Ne.symm y4) n1
      refine ⟨ha, fun i z hi hz => ?_, fun i z hi hz q => lt_ir (lt_tr hP q (lt i z hi hz))⟩
      by_cases ei : i = a
      · subst ei
        rw [hy] at hz
        cases hz
        exact n2
      · exact lt_tr hP (hs i a z y (by omega) hz hy) n2
