/-! Documents as lists through the changes; segments. -/
def vOK (V : mt_V) (D : mt_D) : Prop := okT V.1 ∧ rep V.1 D ∧ (V.2.2.1 = 0 ∨ ordV V D)
theorem app_lt {D : mt_D} {w : List Int} {k : Nat} (h : k < D.length) : (D ++ [w]).getD k [] = D.getD k [] := by
  rw [List.getD_eq_getElem?_getD, List.getD_eq_getElem?_getD, List.getElem?_append_left h]
theorem app_eq {D : mt_D} {w : List Int} : (D ++ [w]).getD D.length [] = w := by
  rw [List.getD_eq_getElem?_getD, List.getElem?_append_right (Nat.le_refl _), Nat.sub_self]
  rfl
theorem rep_app {T : mt_T} {D : mt_D} {R : mt_R} {w : List Int} (hr : rep T D) (ok : okT T) (hw : repR R w) (okr : okR R) (hm : T.1 < 12) : okT (T.1 + 1, wSiz T.2.1 T.1 (T.1 : Int), wSiz (wSiz T.2.2.1 T.1 0) T.1 ((0 + R.1 : Nat) : Int), wLet T.2.2.2 R.2 (T.1 * 40 + 0) R.1 (0 - 0)) ∧ rep (T.1 + 1, wSiz T.2.1 T.1 (T.1 : Int), wSiz (wSiz T.2.2.1 T.1 0) T.1 ((0 + R.1 : Nat) : Int), wLet T.2.2.2 R.2 (T.1 * 40 + 0) R.1 (0 - 0)) (D ++ [w]) := by
  obtain ⟨h1, h2, h3⟩ := hr
  have h20 := okr.1
  refine ⟨⟨by show T.1 + 1 ≤ 12; omega, fun j => ?_, fun j => ?_⟩, by show T.1 + 1 = _; rw [List.length_append, h1]; rfl, by rw [List.length_append]; show D.length + 1 ≤ 12; omega, fun k hk => ?_⟩
  · show 0 ≤ wSiz _ _ _ j ∧ wSiz _ _ _ j ≤ 40
    unfold wSiz
    split
    · omega
    · exact ok.2.1 j
  · show 0 ≤ wLet _ _ _ _ _ j ∧ wLet _ _ _ _ _ j ≤ 65535
    unfold wLet
    split
    · exact okr.2 _
    · split
      · exact ok.2.2 _
      · exact ok.2.2 _
  · rw [List.length_append] at hk
    have hk : k < D.length + 1 := hk
    by_cases c : k < D.length
    · obtain ⟨g1, g2, g3, g4⟩ := h3 k c
      have e : lenD (D ++ [w]) k = lenD D k := by unfold lenD; rw [app_lt c]
      rw [e, app_lt c]
      refine ⟨?_, ?_, g3, fun p hp => ?_⟩
      · show wSiz _ _ _ k = _
        unfold wSiz
        rw [if_neg (by omega)]
        exact g1
      · show wSiz _ _ _ k = _
        unfold wSiz
        rw [if_neg (by omega), if_neg (by omega)]
        exact g2
      · show wLet _ _ _ _ _ _ = _
        unfold wLet
        rw [if_neg (by omega), if_neg (by omega)]
        exact g4 p hp
    · have c : k = D.length := by omega
      subst c
      have e : lenD (D ++ [w]) D.length = w.length := by unfold lenD; rw [app_eq]
      rw [e, app_eq]
      have hw1 := hw.1
      refine ⟨?_, ?_, by omega, fun p hp => ?_⟩
      · show wSiz _ _ _ _ = _
        unfold wSiz
        rw [if_pos h1.symm, h1]
      · show wSiz _ _ _ _ = _
        unfold wSiz
        rw [if_pos h1.symm, hw1]
        omega
      · show wLet _ _ _ _ _ _ = _
        unfold wLet
        rw [if_pos (by omega), show D.length * 40 + p - (T.1 * 40 + 0) = p by omega]
        exact hw.2 p hp
theorem rep_ins {T : mt_T} {d : List Int} {D : mt_D} {R : mt_R} {w : List Int} (hr : rep T (d :: D)) (ok : okT T) (hw : repR R w) (okr : okR R) (h40 : d.length + R.1 ≤ 40) : okT (T.1, T.2.1, wSiz T.2.2.1 0 ((d.length + R.1 : Nat) : Int), wLet T.2.2.2 R.2 (0 * 40 + 0) R.1 (d.length - 0)) ∧ rep (T.1, T.2.1, wSiz T.2.2.1 0 ((d.length + R.1 : Nat) : Int), wLet T.2.2.2 R.2 (0 * 40 + 0) R.1 (d.length - 0)) ((w ++ d) :: D) := by
  obtain ⟨h1, h2, h3⟩ := hr
  have hw1 := hw.1
  refine ⟨⟨ok.1, fun j => ?_, fun j => ?_⟩, h1, h2, fun k hk => ?_⟩
  · show 0 ≤ wSiz _ _ _ j ∧ wSiz _ _ _ j ≤ 40
    unfold wSiz
    split
    · omega
    · exact ok.2.1 j
  · show 0 ≤ wLet _ _ _ _ _ j ∧ wLet _ _ _ _ _ j ≤ 65535
    unfold wLet
    split
    · exact okr.2 _
    · split
      · exact ok.2.2 _
      · exact ok.2.2 _
  · obtain ⟨g1, g2, g3, g4⟩ := h3 k hk
    match k, hk, g1, g2, g3, g4 with
    | 0, hk, g1, g2, g3, g4 =>
      have e : lenD ((w ++ d) :: D) 0 = w.length + d.length := by show (w ++ d).length = _; rw [List.length_append]
      have e0 : lenD (d :: D) 0 = d.length := rfl
      rw [e]
      refine ⟨g1, ?_, by omega, fun p hp => ?_⟩
      · show wSiz T.2.2.1 0 ((d.length + R.1 : Nat) : Int) 0 = _
        unfold wSiz
        rw [if_pos rfl]
        omega
      · show wLet _ _ _ _ _ _ = (w ++ d).getD p 0
        unfold wLet
        by_cases c : p < w.length
        · rw [if_pos (by omega), show 0 * 40 + p - (0 * 40 + 0) = p by omega, hw.2 p c, List.getD_eq_getElem?_getD, List.getD_eq_getElem?_getD, List.getElem?_append_left c]
        · have g5 := g4 (p - w.length) (by omega)
          rw [if_neg (by omega), if_pos (by omega), show 0 * 40 + 0 + (0 * 40 + p - (0 * 40 + 0 + R.1)) = 0 * 40 + (p - w.length) by omega, g5]
          show d.getD (p - w.length) 0 = _
          rw [List.getD_eq_getElem?_getD, List.getD_eq_getElem?_getD, List.getElem?_append_right (by omega)]
    | k + 1, hk, g1, g2, g3, g4 =>
      have e : lenD ((w ++ d) :: D) (k + 1) = lenD (d :: D) (k + 1) := rfl
      rw [e]
      refine ⟨g1, ?_, g3, fun p hp => ?_⟩
      · show wSiz T.2.2.1 0 ((d.length + R.1 : Nat) : Int) (k + 1) = _
        unfold wSiz
        rw [if_neg (by omega)]
        exact g2
      · have g5 := g4 p hp
        show wLet _ _ _ _ _ _ = _
        unfold wLet
        rw [if_neg (by omega), if_neg (by omega), g5]
        rfl
theorem rep_mix {U T : mt_T} {D : mt_D} (hr : rep U D) (okU : okT U) (okT_ : okT T) : okT (U.1, mixF U.2.1 T.2.1 12, mixF U.2.2.1 T.2.2.1 12, mixF U.2.2.2 T.2.2.2 480) ∧ rep (U.1, mixF U.2.1 T.2.1 12, mixF U.2.2.1 T.2.2.1 12, mixF U.2.2.2 T.2.2.2 480) D := by
  obtain ⟨h1, h2, h3⟩ := hr
  refine ⟨⟨okU.1, fun j => ?_, fun j => ?_⟩, h1, h2, fun k hk => ?_⟩
  · show 0 ≤ mixF _ _ _ j ∧ mixF _ _ _ j ≤ 40
    unfold mixF
    split
    · exact okU.2.1 _
    · exact okT_.2.1 _
  · show 0 ≤ mixF _ _ _ j ∧ mixF _ _ _ j ≤ 65535
    unfold mixF
    split
    · exact okU.2.2 _
    · exact okT_.2.2 _
  · obtain ⟨g1, g2, g3, g4⟩ := h3 k hk
    refine ⟨?_, ?_, g3, fun p hp => ?_⟩
    · show mixF _ _ _ k = _
      rw [mixF_in (by omega)]
      exact g1
    · show mixF _ _ _ k = _
      rw [mixF_in (by omega)]
      exact g2
    · show mixF _ _ _ _ = _
      rw [mixF_in (by omega)]
      exact g4 p hp
/-- n documents, each in a segment of its own -/
def sgA (S : mt_G) (n : Nat) : Prop := S.1 = n ∧ ∀ i : Nat, i < n → S.2.1 i = 1 ∧ S.2.2.1 i = 0 ∧ S.2.2.2.1 i = 0 ∧ S.2.2.2.2 i = i
/-- ... of which the first was changed since -/
def sgB (S : mt_G) (n : Nat) : Prop := 0 < n ∧ S.1 = n + 1 ∧ S.2.1 0 = 0 ∧ (∀ i : Nat, 0 < i → i ≤ n → S.2.1 i = 1) ∧ S.2.2.2.2 0 = n ∧ ∀ i : Nat, 0 < i → i < n → S.2.2.2.2 i = i
theorem sgA_set {S : mt_G} {n : Nat} (h : sgA S n) : sgA (gSet S n) (n + 1) := by
  obtain ⟨h1, h2⟩ := h
  refine ⟨by show S.1 + 1 = n + 1; omega, fun i hi => ?_⟩
  show (if i = S.1 then (1 : Int) else S.2.1 i) = 1 ∧ (if i = S.1 then (0 : Int) else S.2.2.1 i) = 0 ∧ (if i = S.1 then (0 : Int) else S.2.2.2.1 i) = 0 ∧ (if i = n then (S.1 : Int) else S.2.2.2.2 i) = i
  by_cases c : i = n
  · rw [if_pos (by omega), if_pos (by omega), if_pos (by omega), if_pos c]
    omega
  · rw [if_neg (by omega), if_neg (by omega), if_neg (by omega), if_neg c]
    exact h2 i (by omega)
theorem sgB_of {S : mt_G} {n : Nat} (h : sgA S n) (hn : 0 < n) (x : Int) : sgB (gSet (gBur S 0 0 x) 0) n := by
  obtain ⟨h1, h2⟩ := h
  refine ⟨hn, by show S.1 + 1 = n + 1; omega, ?_, fun i h0 hi => ?_, ?_, fun i h0 hi => ?_⟩
  · show (if 0 = S.1 then (1 : Int) else if 0 = 0 then S.2.1 0 - 1 else S.2.1 0) = 0
    rw [if_neg (by omega), if_pos rfl, (h2 0 hn).1]
    rfl
  · show (if i = S.1 then (1 : Int) else if i = 0 then S.2.1 0 - 1 else S.2.1 i) = 1
    by_cases c : i = S.1
    · rw [if_pos c]
    · rw [if_neg c, if_neg (by omega)]
      exact (h2 i (by omega)).1
  · show (if 0 = 0 then (S.1 : Int) else if 0 = 0 then -1 else S.2.2.2.2 0) = n
    rw [if_pos rfl, h1]
  · show (if i = 0 then (S.1 : Int) else if i = 0 then -1 else S.2.2.2.2 i) = i
    rw [if_neg (by omega), if_neg (by omega)]
    exact (h2 i hi).2.2.2
def sgK (S : mt_G) (n : Nat) : Prop := n ≤ 12 ∧ (sgA S n ∨ sgB S n)
theorem sgK_sum {S : mt_G} {n : Nat} (h : sgK S n) : S.1 ≤ 512 ∧ (∀ k : Nat, k ≤ S.1 → 0 ≤ gSum S k ∧ gSum S k ≤ 100000) ∧ gSum S S.1 = n := by
  obtain ⟨h0, h⟩ := h
  rcases h with ⟨h1, h2⟩ | ⟨h1, h2, h3, h4, -⟩
  · have key : ∀ k : Nat, k ≤ S.1 → gSum S k = k := by
      intro k
      induction k with
      | zero => intro _; rfl
      | succ k ih =>
        intro hk
        simp only [gSum]
        rw [ih (by omega)]
        have : gLiv S k = 1 := by
          unfold gLiv
          rw [if_neg (by omega), if_neg (by omega), if_neg (by omega), Int.toNat_natCast]
          exact (h2 k (by omega)).1
        omega
    refine ⟨by omega, fun k hk => ?_, ?_⟩
    · rw [key k hk]
      omega
    · rw [key _ (Nat.le_refl _), h1]
  · have key : ∀ k : Nat, k + 1 ≤ S.1 → gSum S (k + 1) = k := by
      intro k
      induction k with
      | zero =>
        intro _
        simp only [gSum]
        have : gLiv S (0 : Nat) = 0 := by
          unfold gLiv
          rw [if_neg (by omega), if_neg (by omega), if_neg (by omega), Int.toNat_natCast]
          exact h3
        rw [this]
        rfl
      | succ k ih =>
        intro hk
        have e := ih (by omega)
        rw [show gSum S (k + 1 + 1) = gSum S (k + 1) + gLiv S ((k + 1 : Nat) : Int) from rfl, e]
        have : gLiv S ((k + 1 : Nat) : Int) = 1 := by
          unfold gLiv
          rw [if_neg (by omega), if_neg (by omega), if_neg (by omega), Int.toNat_natCast]
          exact h4 (k + 1) (by omega) (by omega)
        omega
    refine ⟨by omega, fun k hk => ?_, ?_⟩
    · match k, hk with
      | 0, _ => exact ⟨Int.le_refl _, by show (0 : Int) ≤ 100000; decide⟩
      | k + 1, hk =>
        rw [key k hk]
        omega
    · rw [h2]
      exact key n (by omega)
theorem sgK_home {S : mt_G} {n : Nat} (h : sgK S n) {k : Nat} (hk : k < n) : gIs S (gHome S k) ≠ 0 := by
  obtain ⟨h0, h⟩ := h
  have e : gHome S k = S.2.2.2.2 k := by
    unfold gHome
    rw [if_neg (by omega), if_neg (by omega), Int.toNat_natCast]
  intro q
  have q := gIs_0.mp q
  rw [e] at q
  rcases h with ⟨h1, h2⟩ | ⟨h1, h2, h3, h4, h5, h6⟩
  · have := (h2 k hk).2.2.2
    omega
  · by_cases c : k = 0
    · rw [c, h5] at q
      omega
    · have := h6 k (by omega) hk
      omega
