/-! Texts as lists; putting in order. -/
def rep (T : mt_T) (D : mt_D) : Prop := T.1 = D.length ∧ D.length ≤ 12 ∧ ∀ k : Nat, k < D.length → T.2.1 k = k ∧ T.2.2.1 k = lenD D k ∧ lenD D k ≤ 40 ∧ ∀ p : Nat, p < lenD D k → T.2.2.2 (k * 40 + p) = (D.getD k []).getD p 0
theorem lenD_out {D : mt_D} {k : Nat} (h : D.length ≤ k) : lenD D k = 0 := by
  unfold lenD
  rw [List.getD_eq_getElem?_getD, List.getElem?_eq_none h]
  rfl
theorem rep_size {T : mt_T} {D : mt_D} (h : rep T D) (k : Nat) : tSize T k = lenD D k := by
  obtain ⟨h1, h2, h3⟩ := h
  unfold tSize
  rw [if_neg (by omega)]
  by_cases c : k < D.length
  · rw [if_neg (by omega), if_neg (by omega), Int.toNat_natCast]
    exact (h3 k c).2.1
  · rw [if_pos (by omega), lenD_out (by omega)]
    rfl
theorem rep_len {T : mt_T} {D : mt_D} (h : rep T D) (k : Nat) : lenD D k ≤ 40 := by
  by_cases c : k < D.length
  · exact (h.2.2 k c).2.2.1
  · rw [lenD_out (by omega)]
    omega
theorem rep_num {T : mt_T} {D : mt_D} (h : rep T D) {k : Nat} (c : k < D.length) : tNum T k = k := by
  obtain ⟨h1, h2, h3⟩ := h
  unfold tNum
  rw [if_neg (by omega), if_neg (by omega), if_neg (by omega), Int.toNat_natCast]
  exact (h3 k c).1
theorem getD_out {l : List Int} {i : Nat} (h : l.length ≤ i) : l.getD i 0 = 0 := by
  rw [List.getD_eq_getElem?_getD, List.getElem?_eq_none h]
  rfl
theorem rep_let {T : mt_T} {D : mt_D} (h : rep T D) (k p : Nat) : tLet T k p = (D.getD k []).getD p 0 := by
  obtain ⟨h1, h2, h3⟩ := h
  unfold tLet
  rw [if_neg (by omega)]
  by_cases c : k < D.length
  · obtain ⟨g1, g2, g3, g4⟩ := h3 k c
    rw [if_neg (by omega), if_neg (by omega), if_neg (by omega), Int.toNat_natCast, Int.toNat_natCast, g2]
    by_cases d : p < lenD D k
    · rw [if_pos (by omega), if_neg (by omega)]
      exact g4 p d
    · rw [if_neg (by omega), getD_out (by unfold lenD at d; omega)]
  · have e := lenD_out (D := D) (k := k) (by omega)
    rw [if_pos (by omega), getD_out (by unfold lenD at e; omega)]
theorem dropc {l : List Int} {i : Nat} (h : i < l.length) : l.drop i = l.getD i 0 :: l.drop (i + 1) := by
  rw [List.drop_eq_getElem_cons h, List.getD_eq_getElem?_getD, List.getElem?_eq_getElem h]
  rfl
theorem dropn {l : List Int} {i : Nat} (h : l.length ≤ i) : l.drop i = [] := List.drop_eq_nil_of_le h
theorem posL_at {l : List Int} (h : posL l) {i : Nat} (hi : i < l.length) : 0 < l.getD i 0 := by
  rw [List.getD_eq_getElem?_getD, List.getElem?_eq_getElem hi]
  exact h _ (List.getElem_mem hi)
theorem shF_cmp {f g : Nat → Int} {l m : List Int} (hl : posL l) (hm : posL m) (hf : ∀ i, f i = l.getD i 0) (hg : ∀ i, g i = m.getD i 0) : ∀ k i : Nat, l.length ≤ i + k → f (shF f g k i) - g (shF f g k i) = cmpL (l.drop i) (m.drop i) := by
  have z : ∀ i, l.length ≤ i → f i - g i = cmpL (l.drop i) (m.drop i) := fun i hi => by
    rw [hf, hg, getD_out hi, dropn hi]
    by_cases c : i < m.length
    · rw [dropc c]
      simp only [cmpL]
      omega
    · rw [getD_out (by omega), dropn (by omega)]
      rfl
  intro k
  induction k with
  | zero => intro i hi; exact z i (by omega)
  | succ k ih =>
    intro i hi
    by_cases c : i < l.length
    · have p1 := posL_at hl c
      simp only [shF]
      rw [if_neg (by rw [hf]; omega)]
      by_cases d : f i = g i
      · rw [if_pos d, ih (i + 1) (by omega), dropc c]
        have c2 : i < m.length := by
          apply Decidable.byContradiction
          intro n
          rw [hf, hg, getD_out (l := m) (by omega)] at d
          omega
        rw [dropc c2]
        simp only [cmpL]
        rw [if_pos (by rw [← hf, ← hg]; exact d)]
      · rw [if_neg d, dropc c]
        by_cases c2 : i < m.length
        · rw [dropc c2]
          simp only [cmpL]
          rw [if_neg (by rw [← hf, ← hg]; exact d), hf, hg]
        · rw [dropn (l := m) (by omega), hf, hg, getD_out (l := m) (by omega)]
          simp only [cmpL]
          omega
    · have e : shF f g (k + 1) i = i := by
        simp only [shF]
        rw [if_pos (by rw [hf, getD_out (by omega)])]
      rw [e]
      exact z i (by omega)
theorem suf_at {T : mt_T} {D : mt_D} (h : rep T D) (k p i : Nat) : tLet T k ((p : Int) + i) = (suf D (k, p)).getD i 0 := by
  rw [show (p : Int) + i = ((p + i : Nat) : Int) by omega, rep_let h]
  show (D.getD k []).getD (p + i) 0 = ((D.getD k []).drop p).getD i 0
  generalize D.getD k [] = l
  rw [List.getD_eq_getElem?_getD, List.getD_eq_getElem?_getD, List.getElem?_drop]
theorem tCmp_lt {T : mt_T} {D : mt_D} (h : rep T D) (hp : posD D) (x y : Nat × Nat) : tCmp T x.1 x.2 y.1 y.2 < 0 ↔ lt_ D x y := by
  have e := shF_cmp (f := fun i => tLet T x.1 ((x.2 : Int) + i)) (g := fun i => tLet T y.1 ((y.2 : Int) + i)) (hp.suf x) (hp.suf y) (suf_at h _ _) (suf_at h _ _) 40 0 (by
    have := rep_len h x.1
    unfold suf
    unfold lenD at this
    rw [List.length_drop]
    omega)
  rw [List.drop_zero, List.drop_zero] at e
  unfold lt_
  rw [← e]
  unfold tCmp tSh
  split <;> omega
/-- a suffix against a row -/
def crL : List Int → List Int → Int
  | _, [] => 0
  | [], b :: _ => -b
  | a :: l, b :: m => if a = b then crL l m else a - b
def repR (R : mt_R) (w : List Int) : Prop := R.1 = w.length ∧ ∀ i : Nat, i < w.length → R.2 i = w.getD i 0
theorem crF_crL {T : mt_T} {D : mt_D} (h : rep T D) {R : mt_R} {w : List Int} (hw : repR R w) (okr : okR R) (hpw : posL w) (s p fm : Nat) : ∀ k j : Nat, k + (fm + j) = R.1 → crF T s p R fm k (fm + j) = crL ((suf D (s, p)).drop j) (w.drop (fm + j)) := by
  intro k
  induction k with
  | zero =>
    intro j hj
    rw [dropn (l := w) (by have := hw.1; omega)]
    simp [crF, crL]
  | succ k ih =>
    intro j hj
    have hlt : fm + j < w.length := by have := hw.1; omega
    have e1 : rSign R ((fm + j : Nat) : Int) = w.getD (fm + j) 0 := by
      have := okr.1
      unfold rSign
      rw [if_neg (by omega), if_neg (by omega), if_neg (by omega), Int.toNat_natCast]
      exact hw.2 _ hlt
    have e2 : tLet T s ((p : Int) + ((fm + j : Nat) : Int) - fm) = (suf D (s, p)).getD j 0 := by
      rw [← suf_at h]
      congr 1
      omega
    have p1 := posL_at hpw hlt
    simp only [crF]
    rw [e1, e2, dropc hlt]
    by_cases c : j < (suf D (s, p)).length
    · rw [dropc c]
      simp only [crL]
      by_cases d : (suf D (s, p)).getD j 0 = w.getD (fm + j) 0
      · rw [if_pos (by omega), if_pos d]
        exact ih (j + 1) (by omega)
      · rw [if_neg (by omega), if_neg d]
    · rw [dropn (l := suf D (s, p)) (by omega), getD_out (l := suf D (s, p)) (by omega)]
      simp only [crL]
      rw [if_neg (by omega)]
      omega
/-- codes stand for these places -/
def repC (f : Nat → Int) (L : List (Nat × Nat)) : Prop := ∀ (i : Nat) (y : Nat × Nat), L[i]? = some y → f i = 40 * y.1 + y.2 ∧ y.1 < 12 ∧ y.2 < 40
theorem pos_one {D : mt_D} {L : List (Nat × Nat)} {x : Nat × Nat} {a b : Nat} (h : pos_ D L x a) (g : pos_ D L x b) : a = b := by
  rcases Nat.lt_trichotomy a b with c | c | c
  · have hl : a < L.length := by have := g.1; omega
    exact absurd (g.2.1 a _ c (List.getElem?_eq_getElem hl)) (h.2.2 a _ (Nat.le_refl _) (List.getElem?_eq_getElem hl))
  · exact c
  · have hl : b < L.length := by have := h.1; omega
    exact absurd (h.2.1 b _ c (List.getElem?_eq_getElem hl)) (g.2.2 b _ (Nat.le_refl _) (List.getElem?_eq_getElem hl))
theorem cp_I (f g : Nat → Int) (a b n : Nat) : cpV (fun j => mI (f j)) (fun j => mI (g j)) a b n = fun j => mI (if b ≤ j ∧ j < b + n then f (a + (j - b)) else g j) := by
  funext j
  unfold cpV va_cpy
  split <;> rfl
theorem j9_bs {σ : mx_S} {v : Nat} {V : mt_V} {D : mt_D} {L : List (Nat × Nat)} {x : Nat × Nat} {k0 : Nat} (h : isV σ v V) (ok : okT V.1) (hr : rep V.1 D) (hp : posD D) (hm : V.2.1 = L.length) (h480 : L.length < 480) (hc : repC V.2.2.2.1 L) (hs : srt D L) (hx : x.1 < 12 ∧ x.2 < 40) (hk0 : pos_ D L x k0) {kb wb : Nat} {Q : mx_R → Prop} (hk : sK σ ≤ kb) (hw : sW σ ≤ wb)
    (K : ∀ hi st : Int, mx_J Y9_putIn kb wb 100 [some (mR v), some (mI x.1), some (mI x.2), some (mI k0), some (mI hi), some (mI st), none, none] [] σ Q) : ∀ (n lo hi st : Nat), hi - lo ≤ n → lo ≤ hi → hi ≤ L.length → st + (hi - lo) ≤ 480 → (∀ i y, i < lo → L[i]? = some y → lt_ D y x) → (∀ i y, hi ≤ i → L[i]? = some y → ¬ lt_ D y x) → mx_J Y9_putIn kb wb 29 [some (mR v), some (mI x.1), some (mI x.2), some (mI (lo : Int)), some (mI (hi : Int)), some (mI (st : Int)), none, none] [] σ Q := by
  have fin : ∀ (lo : Nat) (hi st : Int), lo ≤ L.length → (∀ i y, i < lo → L[i]? = some y → lt_ D y x) → (∀ i y, lo ≤ i → L[i]? = some y → ¬ lt_ D y x) → mx_J Y9_putIn kb wb 100 [some (mR v), some (mI x.1), some (mI x.2), some (mI (lo : Int)), some (mI hi), some (mI st), none, none] [] σ Q := fun lo hi st g1 g2 g3 => by
    rw [pos_one (a := lo) ⟨g1, g2, g3⟩ hk0]
    exact K hi st
  intro n
  induction n with
  | zero =>
    intro lo hi st h1 h2 h3 h4 h5 h6
    have e : lo = hi := by omega
    subst e
    exact B_Y9_putIn_29 ⟨fun _ => fin lo _ _ h3 h5 h6, fun _ => ⟨fun _ => fin lo _ _ h3 h5 h6, fun c => absurd c (by omega)⟩⟩
  | succ n ih =>
    intro lo hi st h1 h2 h3 h4 h5 h6
    by_cases c0 : lo = hi
    · subst c0
      exact B_Y9_putIn_29 ⟨fun _ => fin lo _ _ h3 h5 h6, fun _ => ⟨fun _ => fin lo _ _ h3 h5 h6, fun c => absurd c (by omega)⟩⟩
    obtain ⟨mid, hmid⟩ : ∃ mid : Nat, mid = (lo + hi) / 2 := ⟨_, rfl⟩
    have hml : mid < L.length := by omega
    obtain ⟨y, hy⟩ : ∃ y, L[mid]? = some y := ⟨_, List.getElem?_eq_getElem hml⟩
    obtain ⟨y1, y2, y3⟩ := hc mid y hy
    have e1 : mx_div (mx_w ((lo : Int) + hi)) 2 = (mid : Int) := by
      rw [mx_w_id (by omega) (by omega), mx_div_nn (by omega) (by omega)]
      omega
    have e2 : mx_w ((mid : Int) + 1) = ((mid + 1 : Nat) : Int) := by rw [mx_w_id (by omega) (by omega)]; omega
    have e3 : mx_w ((st : Int) + 1) = ((st + 1 : Nat) : Int) := by rw [mx_w_id (by omega) (by omega)]; omega
    refine B_Y9_putIn_29 ⟨fun c => absurd c (by omega), fun _ => ⟨fun c => absurd c (by omega), fun _ => ⟨_, h.1, _, rfl, _, _, h.2.2.1, ?_⟩⟩⟩
    rw [e1, e2]
    refine ⟨by omega, by omega, _, rfl, _, h.1, _, rfl, _, h.2.1.1, ?_⟩
    rw [Int.toNat_natCast, y1, mx_div_nn (by omega) (by omega), mx_rem_nn (by omega) (by omega), show ((40 : Int) * (y.1 : Int) + y.2) / 40 = (y.1 : Int) by omega, show ((40 : Int) * (y.1 : Int) + y.2) % 40 = (y.2 : Int) by omega]
    refine ⟨_, _, c8_compare h.2.1 ok (by omega) (by omega) (by omega) (by omega), hk, hw, fun c => B_Y9_putIn_94 ?_, fun c => B_Y9_putIn_94 ?_⟩
    · rw [e3]
      have nl : ¬ lt_ D y x := fun q => by have := (tCmp_lt hr hp y x).mpr q; omega
      refine ih lo mid (st + 1) (by omega) (by omega) (by omega) (by omega) h5 (fun i z hi2 hz n2 => ?_)
      by_cases d : i = mid
      · subst d
        rw [hy] at hz
        cases hz
        exact nl n2
      · exact nl (lt_tr hp (hs mid i y z (by omega) hy hz) n2)
    · rw [e3]
      have yl : lt_ D y x := (tCmp_lt hr hp y x).mp (by omega)
      refine ih (mid + 1) hi (st + 1) (by omega) (by omega) h3 (by omega) (fun i z hi2 hz => ?_) h6
      by_cases d : i = mid
      · subst d
        rw [hy] at hz
        cases hz
        exact yl
      · exact lt_tr hp (hs i mid z y (by omega) hz hy) yl
theorem c9_putIn {σ : mx_S} {v : Nat} {V : mt_V} {D : mt_D} {L : List (Nat × Nat)} {x : Nat × Nat} (h : isV σ v V) (hb : sB σ ≤ v) (ok : okT V.1) (hr : rep V.1 D) (hp : posD D) (hm : V.2.1 = L.length) (h480 : L.length < 480) (hc : repC V.2.2.2.1 L) (hs : srt D L) (hx : x.1 < 12 ∧ x.2 < 40) : ∃ (σ' : mx_S) (f' : Nat → Int), isV σ' v (V.1, L.length + 1, V.2.2.1, f', V.2.2.2.2) ∧ repC f' (ins D L x) ∧ fr v (v + 8) σ σ' ∧ mx_MS Y9_putIn [mR v, mI x.1, mI x.2] σ (.inl (none, σ')) := by
  obtain ⟨k0, hk0⟩ := pos_ex hp hs x
  have hkl := hk0.1
  obtain ⟨h0, h1, h2, h3, h4⟩ := id h
  refine ⟨mx_wr (mx_wr (mx_wr σ (v + 5) (.inr (0, 480, fun j => mI (if k0 + 1 ≤ j ∧ j < k0 + 1 + (L.length - k0) then V.2.2.2.1 (k0 + (j - (k0 + 1))) else V.2.2.2.1 j)))) (v + 5) (.inr (0, 480, fun j => mI (if j = k0 then 40 * (x.1 : Int) + x.2 else if k0 + 1 ≤ j ∧ j < k0 + 1 + (L.length - k0) then V.2.2.2.1 (k0 + (j - (k0 + 1))) else V.2.2.2.1 j)))) v (.inl (9, [mR (v + 1), mR (v + 5), mR (v + 6), mR (v + 7), mI ((L.length + 1 : Nat) : Int), mI V.2.2.1])), fun j => if j = k0 then 40 * (x.1 : Int) + x.2 else if k0 + 1 ≤ j ∧ j < k0 + 1 + (L.length - k0) then V.2.2.2.1 (k0 + (j - (k0 + 1))) else V.2.2.2.1 j, ⟨wr_at, h1.kp (fun q q1 q2 => ?_), (wr_ne (by omega)).trans wr_at, ?_, ?_⟩, ?_, ((fr.wr (by omega) (by omega)).tr (fr.wr (by omega) (by omega))).tr (fr.wr (by omega) (by omega)), ?_⟩
  · exact (wr_ne (by omega)).trans ((wr_ne (by omega)).trans (wr_ne (by omega)))
  · exact (wr_ne (by omega)).trans ((wr_ne (by omega)).trans ((wr_ne (by omega)).trans h3))
  · exact (wr_ne (by omega)).trans ((wr_ne (by omega)).trans ((wr_ne (by omega)).trans h4))
  · intro i y hy
    rw [pos_at hk0] at hy
    by_cases c1 : i < k0
    · rw [if_pos c1] at hy
      obtain ⟨a1, a2⟩ := hc i y hy
      refine ⟨?_, a2⟩
      show (if i = k0 then _ else _) = _
      rw [if_neg (by omega), if_neg (by omega)]
      exact a1
    · rw [if_neg c1] at hy
      by_cases c2 : i = k0
      · rw [if_pos c2] at hy
        cases hy
        refine ⟨?_, hx⟩
        show (if i = k0 then _ else _) = _
        rw [if_pos c2]
      · rw [if_neg c2] at hy
        obtain ⟨a1, a2⟩ := hc (i - 1) y hy
        have hl := (List.getElem?_eq_some_iff.mp hy).1
        refine ⟨?_, a2⟩
        show (if i = k0 then _ else _) = _
        rw [if_neg c2, if_pos (by omega), show k0 + (i - (k0 + 1)) = i - 1 by omega]
        exact a1
  refine mx_retE (by decide) rfl (Nat.le_of_ble_eq_true rfl) rfl (Nat.le_refl _) (Nat.le_refl _) fun kb wb Q hk hw hQ => ?_
  refine B_Y9_putIn_0 ⟨_, h0, _, rfl, fun c => absurd c (by omega), fun _ => ⟨_, h0, _, rfl, fun _ => ⟨_, h0, _, rfl, ?_⟩, fun c => absurd c (by omega)⟩⟩
  rw [hm]
  refine j9_bs h ok hr hp hm h480 hc hs hx hk0 hk hw (fun hi st => ?_) L.length 0 L.length 0 (by omega) (by omega) (by omega) (by omega) (fun i y hi => absurd hi (by omega)) (fun i y hi hy => by rw [List.getElem?_eq_none hi] at hy; cases hy)
  refine B_Y9_putIn_100 ⟨_, h0, _, rfl, _, h0, _, rfl, _, h0, _, rfl, _, _, _, _, _, h2, h2, ?_⟩
  rw [hm]
  have e1 : mx_w ((k0 : Int) + 1) = ((k0 + 1 : Nat) : Int) := by rw [mx_w_id (by omega) (by omega)]; omega
  have e2 : mx_w ((L.length : Int) - k0) = ((L.length - k0 : Nat) : Int) := by rw [mx_w_id (by omega) (by omega)]; omega
  have e3 : mx_w (mx_w ((x.1 : Int) * 40) + x.2) = 40 * (x.1 : Int) + x.2 := by
    rw [mx_w_id (x := (x.1 : Int) * 40) (by omega) (by omega), mx_w_id (by omega) (by omega)]
    omega
  have e4 : mx_w ((L.length : Int) + 1) = ((L.length + 1 : Nat) : Int) := by rw [mx_w_id (by omega) (by omega)]; omega
  rw [e1, e2, e3]
  refine ⟨by decide, by omega, by omega, by omega, by omega, by omega, by omega, fun _ _ => rfl, fun σ1 g1 => ?_⟩
  rw [cp_I, Int.toNat_natCast, Int.toNat_natCast, Int.toNat_natCast] at g1
  subst g1
  refine ⟨_, (wr_ne (by omega)).trans h0, _, rfl, _, _, wr_at, by show sB σ ≤ _; omega, by omega, by omega, fun σ2 g2 => ?_⟩
  rw [up_I, Int.toNat_natCast] at g2
  subst g2
  refine ⟨_, (wr_ne (by omega)).trans ((wr_ne (by omega)).trans h0), _, rfl, _, (wr_ne (by omega)).trans ((wr_ne (by omega)).trans h0), Nat.le_of_ble_eq_true rfl, hb, fun σ3 g3 => ?_⟩
  rw [hm, e4] at g3
  subst g3
  exact hQ
