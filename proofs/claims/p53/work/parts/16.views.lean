/-! Views: what only asks. -/
theorem mx_okI_of {x : Int} (h1 : -2147483648 ≤ x) (h2 : x ≤ 2147483647) : mx_ok (mI x) := ⟨h1, h2⟩
theorem mx_divE {x y : Int} (hx : 0 ≤ x ∧ x ≤ 2147483647) (hy : 0 < y ∧ y ≤ 2147483647) : Int32.ofInt x / Int32.ofInt y = Int32.ofInt (x / y) := by
  rw [← Int32.toInt_inj, Int32.toInt_div, mx_toInt (mx_okI_of (by omega) (by omega)), mx_toInt (mx_okI_of (by omega) (by omega)), Int.tdiv_eq_ediv_of_nonneg hx.1, Int32.toInt_ofInt]
theorem mx_div_nn {x y : Int} (hx : 0 ≤ x ∧ x ≤ 2147483647) (hy : 0 < y ∧ y ≤ 2147483647) : mx_div x y = x / y := by
  have h1 : 0 ≤ x / y := Int.ediv_nonneg hx.1 (by omega)
  have h2 : x / y ≤ x := Int.ediv_le_self _ hx.1
  unfold mx_div
  rw [mx_divE hx hy]
  exact mx_w_id (by omega) (by omega)
theorem mx_rem_nn {x y : Int} (hx : 0 ≤ x ∧ x ≤ 2147483647) (hy : 0 < y ∧ y ≤ 2147483647) : mx_rem x y = x % y := by
  have h1 : 0 ≤ x / y := Int.ediv_nonneg hx.1 (by omega)
  have h2 : x / y ≤ x := Int.ediv_le_self _ hx.1
  have h3 : 0 ≤ x % y := Int.emod_nonneg _ (by omega)
  have h4 : x % y < y := Int.emod_lt_of_pos _ hy.1
  have h5 : x / y * y = x - x % y := by have := Int.emod_def x y; rw [Int.mul_comm] at this; omega
  unfold mx_rem
  rw [mx_divE hx hy, ← Int32.ofInt_mul, ← Int32.ofInt_sub, h5]
  show mx_w _ = _
  rw [mx_w_id (by omega) (by omega)]
  omega
def vCode (V : mt_V) (i : Int) : Int := if i < 0 then -1 else if (V.2.1 : Int) ≤ i then -1 else if 480 ≤ i then -1 else V.2.2.2.1 i.toNat
def vSlot (V : mt_V) (i : Int) : Int := if 0 ≤ vCode V i then vCode V i / 40 else -1
def vPlace (V : mt_V) (i : Int) : Int := if 0 ≤ vCode V i then vCode V i % 40 else -1
def vTurn (V : mt_V) (i : Int) : Int := if vPlace V i = 0 then 36 else tLet V.1 (vSlot V i) (vPlace V i - 1)
def okV (V : mt_V) : Prop := okT V.1 ∧ V.2.1 ≤ 480 ∧ ∀ i : Nat, i < V.2.1 → 0 ≤ V.2.2.2.1 i ∧ V.2.2.2.1 i < 480
theorem vCode_rg {V : mt_V} (ok : okV V) (i : Int) : -1 ≤ vCode V i ∧ vCode V i < 480 := by
  unfold vCode
  split
  · omega
  split
  · omega
  split
  · omega
  have := ok.2.2 i.toNat (by omega)
  omega
theorem vSlot_rg {V : mt_V} (ok : okV V) (i : Int) : -1 ≤ vSlot V i ∧ vSlot V i < 12 := by
  have := vCode_rg ok i
  unfold vSlot
  split <;> omega
theorem vPlace_rg {V : mt_V} (ok : okV V) (i : Int) : -1 ≤ vPlace V i ∧ vPlace V i < 40 := by
  have := vCode_rg ok i
  unfold vPlace
  split <;> omega
theorem vTurn_rg {V : mt_V} (ok : okV V) (i : Int) : 0 ≤ vTurn V i ∧ vTurn V i ≤ 65535 := by
  unfold vTurn
  split
  · omega
  · exact tLet_rg ok.1 _ _
theorem c9_texts {σ : mx_S} {v : Nat} {V : mt_V} (h : isV σ v V) : mx_MS Y9_texts [mR v] σ (.inl (some (mR (v + 1)), σ)) := by
  refine mx_pure (by decide) rfl (Nat.le_of_ble_eq_true rfl) fun kb wb Q hk hw hQ => ?_
  exact B_Y9_texts_0 ⟨_, h.1, _, rfl, hQ⟩
theorem c9_codeAt {σ : mx_S} {v : Nat} {V : mt_V} (h : isV σ v V) (i : Int) : mx_MS Y9_codeAt [mR v, mI i] σ (.inl (some (mI (vCode V i)), σ)) := by
  refine mx_pureI (by decide) rfl (Nat.le_of_ble_eq_true rfl) fun kb wb Q hk hw hQ => ?_
  refine B_Y9_codeAt_0 ⟨fun c1 => hQ _ ?_, fun c1 => ⟨_, h.1, _, rfl, fun c2 => hQ _ ?_, fun c2 => ⟨_, h.1, _, rfl, _, _, _, h.2.2.1, fun c3 => hQ _ ?_, fun c3 => ⟨_, h.1, _, rfl, _, _, h.2.2.1, by omega, by omega, _, rfl, hQ _ ?_⟩⟩⟩⟩
  all_goals (unfold vCode; (repeat' split) <;> omega)
theorem c9_slotAt {σ : mx_S} {v : Nat} {V : mt_V} (h : isV σ v V) (ok : okV V) (i : Int) : mx_MS Y9_slotAt [mR v, mI i] σ (.inl (some (mI (vSlot V i)), σ)) := by
  refine mx_pureI (by decide) rfl (Nat.le_of_ble_eq_true rfl) fun kb wb Q hk hw hQ => ?_
  have := vCode_rg ok i
  refine B_Y9_slotAt_0 ⟨_, h.1, _, _, c9_codeAt h i, hk, hw, fun c1 => hQ _ ?_, fun c1 => hQ _ ?_⟩
  · unfold vSlot
    rw [if_pos c1, mx_div_nn (by omega) (by omega)]
  · unfold vSlot
    rw [if_neg c1]
theorem c9_placeAt {σ : mx_S} {v : Nat} {V : mt_V} (h : isV σ v V) (ok : okV V) (i : Int) : mx_MS Y9_placeAt [mR v, mI i] σ (.inl (some (mI (vPlace V i)), σ)) := by
  refine mx_pureI (by decide) rfl (Nat.le_of_ble_eq_true rfl) fun kb wb Q hk hw hQ => ?_
  have := vCode_rg ok i
  refine B_Y9_placeAt_0 ⟨_, h.1, _, _, c9_codeAt h i, hk, hw, fun c1 => hQ _ ?_, fun c1 => hQ _ ?_⟩
  · unfold vPlace
    rw [if_pos c1, mx_rem_nn (by omega) (by omega)]
  · unfold vPlace
    rw [if_neg c1]
theorem tLet_ne {T : mt_T} {s p : Int} (h : tLet T s p ≠ 0) : 0 ≤ s ∧ s < (T.1 : Int) ∧ s < 12 ∧ 0 ≤ p ∧ p < 40 ∧ p < T.2.2.1 s.toNat ∧ tLet T s p = T.2.2.2 (s.toNat * 40 + p.toNat) := by
  unfold tLet at h ⊢
  (repeat' split at h) <;> simp_all <;> omega
theorem c9_rankAt {σ : mx_S} {v : Nat} {V : mt_V} (h : isV σ v V) (ok : okV V) {s p : Int} (hne : tLet V.1 s p ≠ 0) : mx_MS Y9_rankAt [mR v, mI s, mI p] σ (.inl (some (mI (V.2.2.2.2.1 (s.toNat * 40 + p.toNat))), σ)) := by
  refine mx_pure (by decide) rfl (Nat.le_of_ble_eq_true rfl) fun kb wb Q hk hw hQ => ?_
  obtain ⟨h1, h2, h3, h4, h5, -⟩ := tLet_ne hne
  refine B_Y9_rankAt_0 ⟨_, h.1, _, rfl, _, h.2.1.1, _, _, c8_letter h.2.1 ok.1 _ _, hk, hw, fun _ => ?_, fun c => absurd hne c⟩
  have e1 : mx_w (s * 40) = s * 40 := mx_w_id (by omega) (by omega)
  have e2 : mx_w (mx_w (s * 40) + p) = s * 40 + p := by rw [e1]; exact mx_w_id (by omega) (by omega)
  have e3 : (s * 40 + p).toNat = s.toNat * 40 + p.toNat := by omega
  rw [e2]
  refine ⟨_, h.1, _, rfl, _, _, h.2.2.2.1, by omega, by omega, _, rfl, ?_⟩
  rw [e3]
  exact hQ
theorem c9_isRising {σ : mx_S} {v : Nat} {V : mt_V} (h : isV σ v V) (ok : okV V) {i : Int} (hi : 0 ≤ i ∧ i ≤ 1000) : mx_MS Y9_isRising [mR v, mI i] σ (.inl (some (mI (if tCmp V.1 (vSlot V (i - 1)) (vPlace V (i - 1)) (vSlot V i) (vPlace V i) < 0 then 1 else 0)), σ)) := by
  refine mx_pureI (by decide) rfl (Nat.le_of_ble_eq_true rfl) fun kb wb Q hk hw hQ => ?_
  have g1 := vSlot_rg ok (i - 1)
  have g2 := vPlace_rg ok (i - 1)
  have g3 := vSlot_rg ok i
  have g4 := vPlace_rg ok i
  refine B_Y9_isRising_0 ⟨_, h.1, _, rfl, _, h.1, ?_⟩
  rw [mx_w_id (x := i - 1) (by omega) (by omega)]
  refine ⟨_, _, c9_slotAt h ok _, hk, hw, _, h.1, _, _, c9_placeAt h ok _, hk, hw, _, h.1, _, _, c9_slotAt h ok _, hk, hw, _, h.1, _, _, c9_placeAt h ok _, hk, hw, _, h.2.1.1, _, _, c8_compare h.2.1 ok.1 (by omega) (by omega) (by omega) (by omega), hk, hw, fun c1 => hQ _ ?_, fun c1 => hQ _ ?_⟩
  · rw [if_neg (by omega)]
  · rw [if_pos (by omega)]
theorem c9_turnedAt {σ : mx_S} {v : Nat} {V : mt_V} (h : isV σ v V) (ok : okV V) (i : Int) : mx_MS Y9_turnedAt [mR v, mI i] σ (.inl (some (mI (vTurn V i)), σ)) := by
  refine mx_pureI (by decide) rfl (Nat.le_of_ble_eq_true rfl) fun kb wb Q hk hw hQ => ?_
  have g2 := vPlace_rg ok i
  refine B_Y9_turnedAt_0 ⟨_, h.1, _, _, c9_placeAt h ok i, hk, hw, fun c1 => ?_, fun c1 => hQ _ ?_⟩
  · refine ⟨_, h.1, _, rfl, _, h.1, _, _, c9_slotAt h ok i, hk, hw, _, h.2.1.1, ?_⟩
    rw [mx_w_id (x := vPlace V i - 1) (by omega) (by omega)]
    refine ⟨_, _, c8_letter h.2.1 ok.1 _ _, hk, hw, (tLet_rg ok.1 _ _).1, (tLet_rg ok.1 _ _).2, hQ _ ?_⟩
    unfold vTurn
    rw [if_neg c1]
  · unfold vTurn
    rw [if_pos (by omega)]
/-- how many below n -/
def cn (p : Nat → Bool) : Nat → Nat
  | 0 => 0
  | n + 1 => cn p n + (if p n = true then 1 else 0)
theorem cn_le (p : Nat → Bool) : ∀ n : Nat, cn p n ≤ n
  | 0 => Nat.le_refl _
  | n + 1 => by
    have := cn_le p n
    simp only [cn]
    split <;> omega
theorem cn_cong {p q : Nat → Bool} : ∀ {n : Nat}, (∀ k, k < n → p k = q k) → cn p n = cn q n
  | 0, _ => rfl
  | n + 1, h => by
    simp only [cn]
    rw [cn_cong (n := n) (fun k hk => h k (by omega)), h n (by omega)]
def vRunB (V : mt_V) (i : Nat) : Bool := decide (i = 0 ∨ vTurn V i ≠ vTurn V ((i : Int) - 1))
theorem j9_runs {σ : mx_S} {v : Nat} {V : mt_V} (h : isV σ v V) (ok : okV V) {P : Nat} (hP : tPl V.1 V.1.1 = P) (hP2 : P ≤ 1000) {kb wb : Nat} {Q : mx_R → Prop} (hk : sK σ ≤ kb) (hw : sW σ ≤ wb) (hQ : Q (.inl (some (mI (cn (vRunB V) P)), σ))) : ∀ (n k : Nat), k + n = P → mx_J Y9_runsOfTurned kb wb 4 [some (mR v), some (mI (cn (vRunB V) k)), some (mI (k : Int))] [] σ Q
  | 0, k, e => by
    refine B_Y9_runsOfTurned_4 ⟨_, h.1, _, rfl, _, h.2.1.1, _, _, c8_places h.2.1 ok.1, hk, hw, fun c1 => ?_, fun c1 => absurd c1 (by omega)⟩
    rw [show k = P by omega]
    exact hQ
  | n + 1, k, e => by
    have ih := j9_runs h ok hP hP2 hk hw hQ n (k + 1) (by omega)
    have hc := cn_le (vRunB V) k
    have e1 : mx_w ((k : Int) + 1) = ((k + 1 : Nat) : Int) := by rw [mx_w_id (by omega) (by omega)]; omega
    have e2 : mx_w ((cn (vRunB V) k : Int) + 1) = ((cn (vRunB V) k + 1 : Nat) : Int) := by rw [mx_w_id (by omega) (by omega)]; omega
    have e3 : mx_w ((k : Int) - 1) = (k : Int) - 1 := mx_w_id (by omega) (by omega)
    have yes : vRunB V k = true → mx_J Y9_runsOfTurned kb wb 34 [some (mR v), some (mI (cn (vRunB V) k)), some (mI (k : Int))] [] σ Q := fun hy => by
      refine B_Y9_runsOfTurned_34 (B_Y9_runsOfTurned_37 ?_)
      rw [e1, e2]
      simp only [cn, hy, if_true] at ih
      exact ih
    refine B_Y9_runsOfTurned_4 ⟨_, h.1, _, rfl, _, h.2.1.1, _, _, c8_places h.2.1 ok.1, hk, hw, fun c1 => absurd c1 (by omega), fun c1 => ⟨fun c2 => yes ?_, fun c2 => ?_⟩⟩
    · unfold vRunB
      exact decide_eq_true (Or.inl (by omega))
    · rw [e3]
      refine ⟨_, h.1, _, _, c9_turnedAt h ok _, hk, hw, _, h.1, _, _, c9_turnedAt h ok _, hk, hw, fun c3 => ?_, fun c3 => yes (decide_eq_true (Or.inr c3))⟩
      have hn : vRunB V k = false := decide_eq_false (by omega)
      refine B_Y9_runsOfTurned_37 ?_
      rw [e1]
      simp only [cn, hn] at ih
      exact ih
theorem c9_runs {σ : mx_S} {v : Nat} {V : mt_V} (h : isV σ v V) (ok : okV V) {P : Nat} (hP : tPl V.1 V.1.1 = P) (hP2 : P ≤ 1000) : mx_MS Y9_runsOfTurned [mR v] σ (.inl (some (mI (cn (vRunB V) P)), σ)) := by
  refine mx_pure (by decide) rfl (Nat.le_of_ble_eq_true rfl) fun kb wb Q hk hw hQ => ?_
  exact B_Y9_runsOfTurned_0 (j9_runs h ok hP hP2 hk hw hQ P 0 (by omega))
theorem j9_ahead {σ : mx_S} {v : Nat} {V : mt_V} (h : isV σ v V) (ok : okV V) (x : Int) {P : Nat} (hP2 : P ≤ 1000) {kb wb : Nat} {Q : mx_R → Prop} (hk : sK σ ≤ kb) (hw : sW σ ≤ wb) (hQ : Q (.inl (some (mI (cn (fun i => decide (vTurn V i = x)) P)), σ))) : ∀ (n k : Nat), k + n = P → mx_J Y9_turnedAhead kb wb 5 [some (mR v), some (mI x), some (mI (P : Int)), some (mI (cn (fun i => decide (vTurn V i = x)) k)), some (mI (k : Int))] [] σ Q
  | 0, k, e => by
    refine B_Y9_turnedAhead_5 ⟨fun c1 => ?_, fun c1 => absurd c1 (by omega)⟩
    rw [show k = P by omega]
    exact hQ
  | n + 1, k, e => by
    have ih := j9_ahead h ok x hP2 hk hw hQ n (k + 1) (by omega)
    have hc := cn_le (fun i => decide (vTurn V i = x)) k
    have e1 : mx_w ((k : Int) + 1) = ((k + 1 : Nat) : Int) := by rw [mx_w_id (by omega) (by omega)]; omega
    have e2 : mx_w ((cn (fun i => decide (vTurn V i = x)) k : Int) + 1) = ((cn (fun i => decide (vTurn V i = x)) k + 1 : Nat) : Int) := by rw [mx_w_id (by omega) (by omega)]; omega
    refine B_Y9_turnedAhead_5 ⟨fun c1 => absurd c1 (by omega), fun c1 => ⟨_, h.1, _, _, c9_turnedAt h ok _, hk, hw, fun c2 => B_Y9_turnedAhead_24 ?_, fun c2 => B_Y9_turnedAhead_24 ?_⟩⟩
    · rw [e1]
      simp only [cn, decide_eq_true_eq, if_neg c2] at ih
      exact ih
    · rw [e1, e2]
      simp only [cn, decide_eq_true_eq, if_pos (Decidable.not_not.mp c2)] at ih
      exact ih
theorem c9_turnedAhead {σ : mx_S} {v : Nat} {V : mt_V} (h : isV σ v V) (ok : okV V) (x : Int) {P : Nat} (hP2 : P ≤ 1000) : mx_MS Y9_turnedAhead [mR v, mI x, mI (P : Int)] σ (.inl (some (mI (cn (fun i => decide (vTurn V i = x)) P)), σ)) := by
  refine mx_pure (by decide) rfl (Nat.le_of_ble_eq_true rfl) fun kb wb Q hk hw hQ => ?_
  exact B_Y9_turnedAhead_0 (j9_ahead h ok x hP2 hk hw hQ P 0 (by omega))
/-- whether a suffix counts below (or at) the row from a sign on -/
def bdB (T : mt_T) (R : mt_R) (fm : Nat) (e : Int) (s : Nat) (p : Nat) : Bool := decide (crF T s p R fm (R.1 - fm) fm < 0 ∨ (crF T s p R fm (R.1 - fm) fm = 0 ∧ e ≠ 0))
def bdO (T : mt_T) (R : mt_R) (fm : Nat) (e : Int) : Nat → Nat
  | 0 => 0
  | s + 1 => bdO T R fm e s + cn (bdB T R fm e s) (tSize T s).toNat
theorem bdO_le {T : mt_T} (ok : okT T) (R : mt_R) (fm : Nat) (e : Int) : ∀ s : Nat, bdO T R fm e s ≤ 40 * s
  | 0 => Nat.le_refl _
  | s + 1 => by
    have h1 := bdO_le ok R fm e s
    have h2 := cn_le (bdB T R fm e s) (tSize T s).toNat
    have h3 := tSize_rg ok s
    simp only [bdO]
    omega
theorem j9_bound {σ : mx_S} {v r : Nat} {V : mt_V} {R : mt_R} (h : isV σ v V) (ok : okT V.1) (g : isR σ r R) (okr : okR R) {fm : Nat} (hf : fm ≤ R.1) (x : Int) {kb wb : Nat} {Q : mx_R → Prop} (hk : sK σ ≤ kb) (hw : sW σ ≤ wb) (hQ : Q (.inl (some (mI (bdO V.1 R fm x V.1.1)), σ))) : ∀ (n s : Nat), s + n = V.1.1 → mx_J Y9_boundOf kb wb 6 [some (mR v), some (mR r), some (mI (fm : Int)), some (mI x), some (mI (bdO V.1 R fm x s)), some (mI (s : Int)), none, none] [] σ Q
  | 0, s, e => by
    refine B_Y9_boundOf_6 ⟨_, h.1, _, rfl, _, h.2.1.1, _, _, c8_many h.2.1, hk, hw, fun c1 => ?_, fun c1 => absurd c1 (by omega)⟩
    rw [show s = V.1.1 by omega]
    exact hQ
  | n + 1, s, e => by
    have ih := j9_bound h ok g okr hf x hk hw hQ n (s + 1) (by omega)
    have h3 := tSize_rg ok s
    have h9 := ok.1
    have h8 := bdO_le ok R fm x s
    have e1 : mx_w ((s : Int) + 1) = ((s + 1 : Nat) : Int) := by rw [mx_w_id (by omega) (by omega)]; omega
    refine B_Y9_boundOf_6 ⟨_, h.1, _, rfl, _, h.2.1.1, _, _, c8_many h.2.1, hk, hw, fun c1 => absurd c1 (by omega), fun c1 => ?_⟩
    have inner : ∀ (m p : Nat), p + m = (tSize V.1 s).toNat → mx_J Y9_boundOf kb wb 21 [some (mR v), some (mR r), some (mI (fm : Int)), some (mI x), some (mI ((bdO V.1 R fm x s + cn (bdB V.1 R fm x s) p : Nat) : Int)), some (mI (s : Int)), some (mI (p : Int)), none] [] σ Q := by
      intro m
      induction m with
      | zero =>
        intro p hp
        refine B_Y9_boundOf_21 ⟨_, h.1, _, rfl, _, h.2.1.1, _, _, c8_sizeAt h.2.1 _, hk, hw, fun c2 => ?_, fun c2 => absurd c2 (by omega)⟩
        rw [e1, show p = (tSize V.1 s).toNat by omega]
        exact ih
      | succ m im =>
        intro p hp
        have im := im (p + 1) (by omega)
        have hc := cn_le (bdB V.1 R fm x s) p
        have e2 : mx_w ((p : Int) + 1) = ((p + 1 : Nat) : Int) := by rw [mx_w_id (by omega) (by omega)]; omega
        have e3 : mx_w (((bdO V.1 R fm x s + cn (bdB V.1 R fm x s) p : Nat) : Int) + 1) = ((bdO V.1 R fm x s + (cn (bdB V.1 R fm x s) p + 1) : Nat) : Int) := by rw [mx_w_id (by omega) (by omega)]; omega
        have yes : ∀ y : Int, bdB V.1 R fm x s p = true → mx_J Y9_boundOf kb wb 64 [some (mR v), some (mR r), some (mI (fm : Int)), some (mI x), some (mI ((bdO V.1 R fm x s + cn (bdB V.1 R fm x s) p : Nat) : Int)), some (mI (s : Int)), some (mI (p : Int)), some (mI y)] [] σ Q := fun y hy => by
          refine B_Y9_boundOf_64 (B_Y9_boundOf_67 ?_)
          rw [e2, e3]
          simp only [cn, hy, if_true] at im
          exact im
        have no : ∀ y : Int, bdB V.1 R fm x s p = false → mx_J Y9_boundOf kb wb 67 [some (mR v), some (mR r), some (mI (fm : Int)), some (mI x), some (mI ((bdO V.1 R fm x s + cn (bdB V.1 R fm x s) p : Nat) : Int)), some (mI (s : Int)), some (mI (p : Int)), some (mI y)] [] σ Q := fun y hy => by
          refine B_Y9_boundOf_67 ?_
          rw [e2]
          simp only [cn, hy] at im
          exact im
        refine B_Y9_boundOf_21 ⟨_, h.1, _, rfl, _, h.2.1.1, _, _, c8_sizeAt h.2.1 _, hk, hw, fun c2 => absurd c2 (by omega), fun c2 => ⟨_, h.1, _, rfl, _, h.2.1.1, _, _, c8_compareToRow h.2.1 ok g okr (by omega) hf, hk, hw, fun c3 => yes _ (decide_eq_true (Or.inl c3)), fun c3 => ⟨fun c4 => no _ (decide_eq_false (by omega)), fun c4 => ⟨fun c5 => no _ (decide_eq_false (by omega)), fun c5 => yes _ (decide_eq_true (Or.inr ⟨by omega, c5⟩))⟩⟩⟩⟩
    exact inner (tSize V.1 s).toNat 0 (by omega)
theorem c9_boundOf {σ : mx_S} {v r : Nat} {V : mt_V} {R : mt_R} (h : isV σ v V) (ok : okT V.1) (g : isR σ r R) (okr : okR R) {fm : Nat} (hf : fm ≤ R.1) (x : Int) : mx_MS Y9_boundOf [mR v, mR r, mI (fm : Int), mI x] σ (.inl (some (mI (bdO V.1 R fm x V.1.1)), σ)) := by
  refine mx_pure (by decide) rfl (Nat.le_of_ble_eq_true rfl) fun kb wb Q hk hw hQ => ?_
  exact B_Y9_boundOf_0 (j9_bound h ok g okr hf x hk hw hQ V.1.1 0 (by omega))
