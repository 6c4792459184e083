/-! Rows and texts: what only asks. -/
theorem c6_size {σ : mx_S} {r : Nat} {R : mt_R} (h : isR σ r R) : mx_MS Y6_size [mR r] σ (.inl (some (mI R.1), σ)) := by
  refine mx_pureI (by decide) rfl (Nat.le_of_ble_eq_true rfl) fun kb wb Q hk hw hQ => ?_
  exact B_Y6_size_0 ⟨_, h.1, _, rfl, hQ _ rfl⟩
theorem c6_sign {σ : mx_S} {r : Nat} {R : mt_R} (h : isR σ r R) (ok : okR R) (i : Int) : mx_MS Y6_sign [mR r, mI i] σ (.inl (some (mI (rSign R i)), σ)) := by
  refine mx_pureI (by decide) rfl (Nat.le_of_ble_eq_true rfl) fun kb wb Q hk hw hQ => ?_
  obtain ⟨h0, h1⟩ := h
  refine B_Y6_sign_0 ⟨fun c1 => hQ _ ?_, fun c1 => ⟨_, h0, _, rfl, fun c2 => hQ _ ?_, fun c2 => ⟨_, h0, _, rfl, _, _, _, h1, fun c3 => hQ _ ?_, fun c3 => ⟨_, h0, _, rfl, _, _, h1, by omega, by omega, _, rfl, (ok.2 _).1, (ok.2 _).2, hQ _ ?_⟩⟩⟩⟩
  all_goals (unfold rSign; (repeat' split) <;> omega)
theorem c8_many {σ : mx_S} {t : Nat} {T : mt_T} (h : isT σ t T) : mx_MS Y8_many [mR t] σ (.inl (some (mI T.1), σ)) := by
  refine mx_pureI (by decide) rfl (Nat.le_of_ble_eq_true rfl) fun kb wb Q hk hw hQ => ?_
  exact B_Y8_many_0 ⟨_, h.1, _, rfl, hQ _ rfl⟩
theorem c8_isSlot {σ : mx_S} {t : Nat} {T : mt_T} (h : isT σ t T) (s : Int) : mx_MS Y8_isSlot [mR t, mI s] σ (.inl (some (mI (tIs T s)), σ)) := by
  refine mx_pureI (by decide) rfl (Nat.le_of_ble_eq_true rfl) fun kb wb Q hk hw hQ => ?_
  refine B_Y8_isSlot_0 ⟨fun c1 => hQ _ ?_, fun c1 => ⟨_, h.1, _, rfl, fun c2 => hQ _ ?_, fun c2 => ⟨fun c3 => hQ _ ?_, fun c3 => hQ _ ?_⟩⟩⟩
  all_goals (unfold tIs; (repeat' split) <;> omega)
theorem tIs_0 {T : mt_T} {s : Int} : tIs T s = 0 ↔ ¬ (0 ≤ s ∧ s < (T.1 : Int) ∧ s < 12) := by
  unfold tIs
  (repeat' split) <;> omega
theorem c8_sizeAt {σ : mx_S} {t : Nat} {T : mt_T} (h : isT σ t T) (s : Int) : mx_MS Y8_sizeAt [mR t, mI s] σ (.inl (some (mI (tSize T s)), σ)) := by
  refine mx_pureI (by decide) rfl (Nat.le_of_ble_eq_true rfl) fun kb wb Q hk hw hQ => ?_
  refine B_Y8_sizeAt_0 ⟨_, h.1, _, _, c8_isSlot h s, hk, hw, fun c1 => hQ _ ?_, fun c1 => ?_⟩
  · have := tIs_0.mp c1
    unfold tSize
    (repeat' split) <;> omega
  · have := mt tIs_0.mpr c1
    exact ⟨_, h.1, _, rfl, _, _, h.2.2.1, by omega, by omega, _, rfl, hQ _ (by unfold tSize; (repeat' split) <;> omega)⟩
theorem c8_numberAt {σ : mx_S} {t : Nat} {T : mt_T} (h : isT σ t T) (s : Int) : mx_MS Y8_numberAt [mR t, mI s] σ (.inl (some (mI (tNum T s)), σ)) := by
  refine mx_pureI (by decide) rfl (Nat.le_of_ble_eq_true rfl) fun kb wb Q hk hw hQ => ?_
  refine B_Y8_numberAt_0 ⟨_, h.1, _, _, c8_isSlot h s, hk, hw, fun c1 => hQ _ ?_, fun c1 => ?_⟩
  · have := tIs_0.mp c1
    unfold tNum
    (repeat' split) <;> omega
  · have := mt tIs_0.mpr c1
    exact ⟨_, h.1, _, rfl, _, _, h.2.1, by omega, by omega, _, rfl, hQ _ (by unfold tNum; (repeat' split) <;> omega)⟩
theorem c8_letter {σ : mx_S} {t : Nat} {T : mt_T} (h : isT σ t T) (ok : okT T) (s p : Int) : mx_MS Y8_letter [mR t, mI s, mI p] σ (.inl (some (mI (tLet T s p)), σ)) := by
  refine mx_pureI (by decide) rfl (Nat.le_of_ble_eq_true rfl) fun kb wb Q hk hw hQ => ?_
  obtain ⟨h0, h1, h2, h3⟩ := h
  refine B_Y8_letter_0 ⟨fun c1 => hQ _ ?_, fun c1 => ⟨_, h0, _, rfl, fun c2 => hQ _ ?_, fun c2 => ⟨fun c3 => hQ _ ?_, fun c3 => ⟨fun c4 => hQ _ ?_, fun c4 => ⟨_, h0, _, rfl, _, _, h2, by omega, by omega, _, rfl, fun c5 => ⟨fun c6 => hQ _ ?_, fun c6 => ?_⟩, fun c5 => hQ _ ?_⟩⟩⟩⟩⟩
  case refine_6 =>
    have e1 : mx_w (s * 40) = s * 40 := mx_w_id (by omega) (by omega)
    have e2 : mx_w (mx_w (s * 40) + p) = s * 40 + p := by rw [e1]; exact mx_w_id (by omega) (by omega)
    have e3 : (s * 40 + p).toNat = s.toNat * 40 + p.toNat := by omega
    rw [e2]
    refine ⟨_, h0, _, rfl, _, _, h3, by omega, by omega, _, rfl, (ok.2.2 _).1, (ok.2.2 _).2, hQ _ ?_⟩
    unfold tLet
    rw [e3]
    (repeat' split) <;> omega
  all_goals (unfold tLet; (repeat' split) <;> omega)
/-- the letters of all slots below n -/
def tPl (T : mt_T) : Nat → Int
  | 0 => 0
  | n + 1 => tPl T n + tSize T n
theorem tPl_rg {T : mt_T} (ok : okT T) : ∀ n : Nat, 0 ≤ tPl T n ∧ tPl T n ≤ 40 * n
  | 0 => by simp [tPl]
  | n + 1 => by
    have h1 := tPl_rg ok n
    have h2 := tSize_rg ok n
    simp only [tPl]
    omega
theorem j8_places {σ : mx_S} {t : Nat} {T : mt_T} (h : isT σ t T) (ok : okT T) {kb wb : Nat} {Q : mx_R → Prop} (hk : sK σ ≤ kb) (hw : sW σ ≤ wb) (hQ : Q (.inl (some (mI (tPl T T.1)), σ))) : ∀ (n k : Nat), k + n = T.1 → mx_J Y8_places kb wb 4 [some (mR t), some (mI (tPl T k)), some (mI (k : Int))] [] σ Q
  | 0, k, e => by
    refine B_Y8_places_4 ⟨_, h.1, _, rfl, fun c1 => ?_, fun c1 => absurd c1 (by omega)⟩
    rw [show k = T.1 by omega]
    exact hQ
  | n + 1, k, e => by
    have h1 := tPl_rg ok k
    have h2 := tSize_rg ok k
    have h3 := ok.1
    refine B_Y8_places_4 ⟨_, h.1, _, rfl, fun c1 => absurd c1 (by omega), fun c1 => ⟨_, h.1, _, _, c8_sizeAt h _, hk, hw, ?_⟩⟩
    rw [mx_w_id (x := tPl T k + tSize T k) (by omega) (by omega), mx_w_id (x := (k : Int) + 1) (by omega) (by omega)]
    exact j8_places h ok hk hw hQ n (k + 1) (by omega)
theorem c8_places {σ : mx_S} {t : Nat} {T : mt_T} (h : isT σ t T) (ok : okT T) : mx_MS Y8_places [mR t] σ (.inl (some (mI (tPl T T.1)), σ)) := by
  refine mx_pure (by decide) rfl (Nat.le_of_ble_eq_true rfl) fun kb wb Q hk hw hQ => ?_
  exact B_Y8_places_0 (j8_places h ok hk hw hQ T.1 0 (by omega))
theorem j8_slotOf {σ : mx_S} {t : Nat} {T : mt_T} (h : isT σ t T) (ok : okT T) (hn : ∀ j : Nat, j < T.1 → T.2.1 j = j) (d : Int) {kb wb : Nat} {Q : mx_R → Prop} (hk : sK σ ≤ kb) (hw : sW σ ≤ wb) (hQ : Q (.inl (some (mI (if 0 ≤ d ∧ d < (T.1 : Int) then d else -1)), σ))) : ∀ (n k : Nat), k + n = T.1 → (k : Int) ≤ d ∨ d < 0 → mx_J Y8_slotOf kb wb 2 [some (mR t), some (mI d), some (mI (k : Int))] [] σ Q
  | 0, k, e, hd => by
    refine B_Y8_slotOf_2 ⟨_, h.1, _, rfl, fun c1 => ?_, fun c1 => absurd c1 (by omega)⟩
    rw [if_neg (by omega)] at hQ
    exact hQ
  | n + 1, k, e, hd => by
    have h3 := ok.1
    refine B_Y8_slotOf_2 ⟨_, h.1, _, rfl, fun c1 => absurd c1 (by omega), fun c1 => ⟨_, h.1, _, _, c8_numberAt h _, hk, hw, fun c2 => ?_, fun c2 => ?_⟩⟩
    all_goals
      have e1 : tNum T (k : Int) = k := by
        unfold tNum
        rw [if_neg (by omega), if_neg (by omega), if_neg (by omega)]
        exact hn k (by omega)
      rw [e1] at c2
    · rw [mx_w_id (x := (k : Int) + 1) (by omega) (by omega)]
      exact j8_slotOf h ok hn d hk hw hQ n (k + 1) (by omega) (by omega)
    · have e2 : (k : Int) = d := by omega
      rw [if_pos (by omega)] at hQ
      rw [e2]
      exact hQ
theorem c8_slotOf {σ : mx_S} {t : Nat} {T : mt_T} (h : isT σ t T) (ok : okT T) (hn : ∀ j : Nat, j < T.1 → T.2.1 j = j) (d : Int) : mx_MS Y8_slotOf [mR t, mI d] σ (.inl (some (mI (if 0 ≤ d ∧ d < (T.1 : Int) then d else -1)), σ)) := by
  refine mx_pure (by decide) rfl (Nat.le_of_ble_eq_true rfl) fun kb wb Q hk hw hQ => ?_
  exact B_Y8_slotOf_0 (j8_slotOf h ok hn d hk hw hQ T.1 0 (by omega) (by omega))
/-- how many letters two rows of letters have in common -/
def shF (f g : Nat → Int) : Nat → Nat → Nat
  | 0, i => i
  | k + 1, i => if f i = 0 then i else if f i = g i then shF f g k (i + 1) else i
theorem shF_le (f g : Nat → Int) : ∀ k i : Nat, i ≤ shF f g k i ∧ shF f g k i ≤ i + k
  | 0, i => by simp [shF]
  | k + 1, i => by
    have h := shF_le f g k (i + 1)
    unfold shF
    (repeat' split) <;> omega
def tSh (T : mt_T) (s p s' p' : Int) : Nat := shF (fun i => tLet T s (p + i)) (fun i => tLet T s' (p' + i)) 40 0
theorem j8_shared {σ : mx_S} {t : Nat} {T : mt_T} (h : isT σ t T) (ok : okT T) {s p s' p' : Int} (hp : -1000 ≤ p ∧ p ≤ 1000) (hp' : -1000 ≤ p' ∧ p' ≤ 1000) {kb wb : Nat} {Q : mx_R → Prop} (hk : sK σ ≤ kb) (hw : sW σ ≤ wb) (hQ : Q (.inl (some (mI (tSh T s p s' p')), σ))) : ∀ (n k : Nat), k + n = 40 → tSh T s p s' p' = shF (fun i => tLet T s (p + i)) (fun i => tLet T s' (p' + i)) n k → mx_J Y8_shared kb wb 3 [some (mR t), some (mI s), some (mI p), some (mI s'), some (mI p'), some (mI (k : Int)), none] [] σ Q
  | 0, k, e, he => by
    refine B_Y8_shared_3 ⟨fun c1 => ?_, fun c1 => absurd c1 (by omega)⟩
    rw [show tSh T s p s' p' = k from he] at hQ
    exact hQ
  | n + 1, k, e, he => by
    have e1 : mx_w (p + k) = p + k := mx_w_id (by omega) (by omega)
    have e2 : mx_w (p' + k) = p' + k := mx_w_id (by omega) (by omega)
    have e3 : mx_w ((k : Int) + 1) = k + 1 := mx_w_id (by omega) (by omega)
    simp only [shF] at he
    refine B_Y8_shared_3 ⟨fun c1 => absurd c1 (by omega), fun c1 => ?_⟩
    rw [e1, e2, e3]
    refine ⟨_, h.1, _, _, c8_letter h ok _ _, hk, hw, fun c2 => ?_, fun c2 => ⟨_, h.1, _, _, c8_letter h ok _ _, hk, hw, fun c3 => ?_, fun c3 => ?_⟩⟩
    · rw [if_pos c2] at he
      rw [he] at hQ
      exact hQ
    · rw [if_neg c2, if_pos c3] at he
      exact j8_shared h ok hp hp' hk hw hQ n (k + 1) (by omega) he
    · rw [if_neg c2, if_neg c3] at he
      rw [he] at hQ
      exact hQ
theorem c8_shared {σ : mx_S} {t : Nat} {T : mt_T} (h : isT σ t T) (ok : okT T) {s p s' p' : Int} (hp : -1000 ≤ p ∧ p ≤ 1000) (hp' : -1000 ≤ p' ∧ p' ≤ 1000) : mx_MS Y8_shared [mR t, mI s, mI p, mI s', mI p'] σ (.inl (some (mI (tSh T s p s' p')), σ)) := by
  refine mx_pure (by decide) rfl (Nat.le_of_ble_eq_true rfl) fun kb wb Q hk hw hQ => ?_
  exact B_Y8_shared_0 (j8_shared h ok hp hp' hk hw hQ 40 0 (by omega) rfl)
/-- below 0 if the first suffix is the lower one -/
def tCmp (T : mt_T) (s p s' p' : Int) : Int := if tLet T s (p + tSh T s p s' p') - tLet T s' (p' + tSh T s p s' p') = 0 then s - s' else tLet T s (p + tSh T s p s' p') - tLet T s' (p' + tSh T s p s' p')
theorem c8_compare {σ : mx_S} {t : Nat} {T : mt_T} (h : isT σ t T) (ok : okT T) {s p s' p' : Int} (hs : -1000 ≤ s ∧ s ≤ 1000) (hs' : -1000 ≤ s' ∧ s' ≤ 1000) (hp : -1000 ≤ p ∧ p ≤ 1000) (hp' : -1000 ≤ p' ∧ p' ≤ 1000) : mx_MS Y8_compare [mR t, mI s, mI p, mI s', mI p'] σ (.inl (some (mI (tCmp T s p s' p')), σ)) := by
  refine mx_pureI (by decide) rfl (Nat.le_of_ble_eq_true rfl) fun kb wb Q hk hw hQ => ?_
  have hn : tSh T s p s' p' ≤ 40 := by
    have := (shF_le (fun i => tLet T s (p + i)) (fun i => tLet T s' (p' + i)) 40 0).2
    simpa [tSh] using this
  have g1 := tLet_rg ok s (p + tSh T s p s' p')
  have g2 := tLet_rg ok s' (p' + tSh T s p s' p')
  refine B_Y8_compare_0 ⟨_, h.1, _, _, c8_shared h ok hp hp', hk, hw, ?_⟩
  rw [mx_w_id (x := p + (tSh T s p s' p' : Int)) (by omega) (by omega), mx_w_id (x := p' + (tSh T s p s' p' : Int)) (by omega) (by omega)]
  refine ⟨_, h.1, _, _, c8_letter h ok _ _, hk, hw, _, h.1, _, _, c8_letter h ok _ _, hk, hw, ?_⟩
  rw [mx_w_id (x := tLet T s (p + (tSh T s p s' p' : Int)) - tLet T s' (p' + (tSh T s p s' p' : Int))) (by omega) (by omega), mx_w_id (x := s - s') (by omega) (by omega)]
  exact ⟨fun c1 => hQ _ (by unfold tCmp; rw [if_pos c1]), fun c1 => hQ _ (by unfold tCmp; rw [if_neg c1])⟩
/-- a suffix against a row from a sign on -/
def crF (T : mt_T) (s p : Int) (R : mt_R) (fm : Nat) : Nat → Nat → Int
  | 0, _ => 0
  | k + 1, i => if tLet T s (p + i - fm) - rSign R i = 0 then crF T s p R fm k (i + 1) else tLet T s (p + i - fm) - rSign R i
theorem j8_cr {σ : mx_S} {t r : Nat} {T : mt_T} {R : mt_R} (h : isT σ t T) (ok : okT T) (g : isR σ r R) (okr : okR R) {s p : Int} {fm : Nat} (hp : -1000 ≤ p ∧ p ≤ 1000) (hf : fm ≤ R.1) {kb wb : Nat} {Q : mx_R → Prop} (hk : sK σ ≤ kb) (hw : sW σ ≤ wb) {x : Int} (hQ : Q (.inl (some (mI x), σ))) : ∀ (n k : Nat), k + n = R.1 → x = crF T s p R fm n k → mx_J Y8_compareToRow kb wb 4 [some (mR t), some (mI s), some (mI p), some (mR r), some (mI (fm : Int)), some (mI (k : Int)), none] [] σ Q
  | 0, k, e, he => by
    refine B_Y8_compareToRow_4 ⟨_, g.1, _, _, c6_size g, hk, hw, fun c1 => ?_, fun c1 => absurd c1 (by omega)⟩
    rw [show x = 0 from he] at hQ
    exact hQ
  | n + 1, k, e, he => by
    have h9 := okr.1
    have e0 : mx_w (p + k) = p + k := mx_w_id (by omega) (by omega)
    have e1 : mx_w (p + k - fm) = p + k - fm := mx_w_id (by omega) (by omega)
    have e3 : mx_w ((k : Int) + 1) = k + 1 := mx_w_id (by omega) (by omega)
    have g1 := tLet_rg ok s (p + k - fm)
    have g2 := rSign_rg okr k
    simp only [crF] at he
    refine B_Y8_compareToRow_4 ⟨_, g.1, _, _, c6_size g, hk, hw, fun c1 => absurd c1 (by omega), fun c1 => ?_⟩
    rw [e0, e1, e3]
    refine ⟨_, h.1, _, _, c8_letter h ok _ _, hk, hw, _, g.1, _, _, c6_sign g okr _, hk, hw, ?_⟩
    rw [mx_w_id (x := tLet T s (p + k - fm) - rSign R k) (by omega) (by omega)]
    refine ⟨fun c2 => ?_, fun c2 => ?_⟩
    · rw [if_pos c2] at he
      exact j8_cr h ok g okr hp hf hk hw hQ n (k + 1) (by omega) he
    · rw [if_neg c2] at he
      rw [he] at hQ
      exact hQ
theorem c8_compareToRow {σ : mx_S} {t r : Nat} {T : mt_T} {R : mt_R} (h : isT σ t T) (ok : okT T) (g : isR σ r R) (okr : okR R) {s p : Int} {fm : Nat} (hp : -1000 ≤ p ∧ p ≤ 1000) (hf : fm ≤ R.1) : mx_MS Y8_compareToRow [mR t, mI s, mI p, mR r, mI (fm : Int)] σ (.inl (some (mI (crF T s p R fm (R.1 - fm) fm)), σ)) := by
  refine mx_pure (by decide) rfl (Nat.le_of_ble_eq_true rfl) fun kb wb Q hk hw hQ => ?_
  exact B_Y8_compareToRow_0 (j8_cr h ok g okr hp hf hk hw hQ (R.1 - fm) fm (by omega) rfl)
