/-! The calls that the law makes: order. -/
/-- what a call of the law does to the heap -/
def fx (o : Nat) (σ σ' : mx_S) : Prop := sB σ' = sB σ ∧ sN σ ≤ sN σ' ∧ sK σ' ≤ sK σ + 1 ∧ sW σ' ≤ sW σ + 6 ∧ ∀ q : Nat, (q < o ∨ o + 85 ≤ q) → sH σ' q = sH σ q
theorem fx_of {o : Nat} {σ σ' : mx_S} (h : fr o (o + 85) σ σ') : fx o σ σ' := ⟨h.1, Nat.le_of_eq h.2.1.symm, by rw [h.2.2.1]; exact Nat.le_add_right _ _, by rw [h.2.2.2.1]; exact Nat.le_add_right _ _, h.2.2.2.2⟩
theorem fx_ofX {o : Nat} {σ σ' : mx_S} (h : fr o (o + 85) σ σ') : fx o σ (mx_ex σ') := ⟨h.1, Nat.le_of_eq h.2.1.symm, by show sK σ' + 1 ≤ _; rw [h.2.2.1]; exact Nat.le_refl _, by show sW σ' + 6 ≤ _; rw [h.2.2.2.1]; exact Nat.le_refl _, h.2.2.2.2⟩
theorem ord_lt {D : mt_D} {i : Nat} {y : Nat × Nat} (h : (ordS D D.length)[i]? = some y) : i < totD D D.length := by
  have := (List.getElem?_eq_some_iff.mp h).1
  rw [ordS_len] at this
  exact this
theorem S_suffD {σ : mx_S} {o : Nat} {w : List Int} {D : mt_D} {E : Option mt_D} {b : Bool} {x : Int} {D1 : mt_D} (h : hS σ o w D E b) (hb : sB σ ≤ o) (hv : vS D E x D1) {i : Nat} {y : Nat × Nat} (hy : (ordS D1 D1.length)[i]? = some y) : ∃ σ' : mx_S, hS σ' o w D E b ∧ fx o σ σ' ∧ mx_MSN YL_suffixAt [mR o, mI x, mI (i : Int), mI 100] σ (some (mI (y.1 : Int))) σ' := by
  obtain ⟨σ', a, V, h', F, v, ok, hr, ov, hd, ⟨fs, q⟩, m⟩ := S_ord h hb hv
  obtain ⟨a1, a2, a3, a4, a5⟩ := ov.at ok hr hy
  have okv := ov.ok ok hr
  refine ⟨σ', h', fx_of F, mx_MSN_of ?_⟩
  have inner : mx_MS Y10_suffixAt [mR o, mI x, mI (i : Int), mI 100] σ (.inl (some (mI (y.1 : Int)), σ')) := by
    refine mx_retE (by decide) rfl (Nat.le_of_ble_eq_true rfl) F.1 (by rw [F.2.2.1]; exact Nat.le_refl _) (by rw [F.2.2.2.1]; exact Nat.le_refl _) fun kb wb Q hk hw hQ => ?_
    refine B_Y10_suffixAt_0 ⟨_, q, Or.inl ⟨_, σ', m, hk, hw, Or.inl ⟨_, c10_needRank v ok hr (ord_lt hy), hk, hw, fun c => absurd rfl c, fun _ => ⟨_, v.1, _, _, c9_texts v, hk, hw, _, v.1, _, _, c9_slotAt v okv _, hk, hw, _, v.2.1.1, _, _, c8_numberAt v.2.1 _, hk, hw, ?_⟩⟩⟩⟩
    rw [a1, rep_num hr a4]
    exact hQ
  refine mx_retEH (by decide) (List.cons_ne_nil _ _) (Nat.le_of_ble_eq_true rfl) F.1 (by rw [F.2.2.1]; exact Nat.le_refl _) (by rw [F.2.2.2.1]; exact Nat.le_refl _) fun kb wb Q hk hw hQ => ?_
  exact B_YL_suffixAt_0 ⟨_, q, Or.inl ⟨_, σ', inner, hk, hw, hQ⟩⟩
theorem S_suffP {σ : mx_S} {o : Nat} {w : List Int} {D : mt_D} {E : Option mt_D} {b : Bool} {x : Int} {D1 : mt_D} (h : hS σ o w D E b) (hb : sB σ ≤ o) (hv : vS D E x D1) {i : Nat} {y : Nat × Nat} (hy : (ordS D1 D1.length)[i]? = some y) : ∃ σ' : mx_S, hS σ' o w D E b ∧ fx o σ σ' ∧ mx_MSN YL_suffixAt [mR o, mI x, mI (i : Int), mI 112] σ (some (mI (y.2 : Int))) σ' := by
  obtain ⟨σ', a, V, h', F, v, ok, hr, ov, hd, ⟨fs, q⟩, m⟩ := S_ord h hb hv
  obtain ⟨a1, a2, a3, a4, a5⟩ := ov.at ok hr hy
  have okv := ov.ok ok hr
  refine ⟨σ', h', fx_of F, mx_MSN_of ?_⟩
  have inner : mx_MS Y10_suffixAt [mR o, mI x, mI (i : Int), mI 112] σ (.inl (some (mI (y.2 : Int)), σ')) := by
    refine mx_retE (by decide) rfl (Nat.le_of_ble_eq_true rfl) F.1 (by rw [F.2.2.1]; exact Nat.le_refl _) (by rw [F.2.2.2.1]; exact Nat.le_refl _) fun kb wb Q hk hw hQ => ?_
    refine B_Y10_suffixAt_0 ⟨_, q, Or.inl ⟨_, σ', m, hk, hw, Or.inl ⟨_, c10_needRank v ok hr (ord_lt hy), hk, hw, fun _ => ⟨fun c => absurd rfl c, fun _ => ⟨_, v.1, _, _, c9_placeAt v okv _, hk, hw, ?_⟩⟩, fun c => absurd (by decide) c⟩⟩⟩
    rw [a2]
    exact hQ
  refine mx_retEH (by decide) (List.cons_ne_nil _ _) (Nat.le_of_ble_eq_true rfl) F.1 (by rw [F.2.2.1]; exact Nat.le_refl _) (by rw [F.2.2.2.1]; exact Nat.le_refl _) fun kb wb Q hk hw hQ => ?_
  exact B_YL_suffixAt_0 ⟨_, q, Or.inl ⟨_, σ', inner, hk, hw, hQ⟩⟩
theorem S_suffX {σ : mx_S} {o : Nat} {w : List Int} {D : mt_D} {E : Option mt_D} {b : Bool} {x : Int} {D1 : mt_D} (h : hS σ o w D E b) (hb : sB σ ≤ o) (hv : vS D E x D1) {i : Nat} (hi : totD D1 D1.length ≤ i) (c9 : Int) : ∃ σ' : mx_S, hS σ' o w D E b ∧ fx o σ σ' ∧ mx_MSN YL_suffixAt [mR o, mI x, mI (i : Int), mI c9] σ (some (mI (-900002))) σ' := by
  obtain ⟨σ', a, V, h', F, v, ok, hr, ov, hd, ⟨fs, q⟩, m⟩ := S_ord h hb hv
  have k1 : sK σ ≤ sK σ' + 1 := by rw [F.2.2.1]; exact Nat.le_add_right _ _
  have k2 : sW σ ≤ sW σ' + 6 := by rw [F.2.2.2.1]; exact Nat.le_add_right _ _
  refine ⟨mx_ex σ', h'.kp (fun _ _ _ => rfl), fx_ofX F, ?_⟩
  have inner : mx_MS Y10_suffixAt [mR o, mI x, mI (i : Int), mI c9] σ (.inr ("java/util/NoSuchElementException", mx_ex σ')) := by
    refine mx_thrE (by decide) rfl (Nat.le_of_ble_eq_true rfl) F.1 k1 k2 fun kb wb Q hk hw hQ => ?_
    exact B_Y10_suffixAt_0 ⟨_, q, Or.inl ⟨_, σ', m, Nat.le_trans (Nat.le_add_right _ _) hk, Nat.le_trans (Nat.le_add_right _ _) hw, Or.inr ⟨_, _, c10_needRankX v ok hr hi, hk, hw, hQ⟩⟩⟩
  refine mx_retEN (by decide) (List.cons_ne_nil _ _) (Nat.le_of_ble_eq_true rfl) F.1 k1 k2 fun kb wb Q hk hw hQ => ?_
  exact B_YL_suffixAt_0 ⟨_, q, Or.inr (Or.inr (Or.inl ⟨_, inner, hk, hw, fun n q6 s7 hn e => by subst e; exact hQ n hn⟩))⟩
theorem S_turn {σ : mx_S} {o : Nat} {w : List Int} {D : mt_D} {E : Option mt_D} {b : Bool} {x : Int} {D1 : mt_D} (h : hS σ o w D E b) (hb : sB σ ≤ o) (hv : vS D E x D1) {i : Nat} {y : Nat × Nat} (hy : (ordS D1 D1.length)[i]? = some y) : ∃ σ' : mx_S, hS σ' o w D E b ∧ fx o σ σ' ∧ mx_MSN YL_turned [mR o, mI x, mI (i : Int)] σ (some (mI (trn D1 y))) σ' := by
  obtain ⟨σ', a, V, h', F, v, ok, hr, ov, hd, ⟨fs, q⟩, m⟩ := S_ord h hb hv
  obtain ⟨a1, a2, a3, a4, a5⟩ := ov.at ok hr hy
  have okv := ov.ok ok hr
  refine ⟨σ', h', fx_of F, mx_MSN_of ?_⟩
  have inner : mx_MS Y10_turned [mR o, mI x, mI (i : Int)] σ (.inl (some (mI (trn D1 y)), σ')) := by
    refine mx_retE (by decide) rfl (Nat.le_of_ble_eq_true rfl) F.1 (by rw [F.2.2.1]; exact Nat.le_refl _) (by rw [F.2.2.2.1]; exact Nat.le_refl _) fun kb wb Q hk hw hQ => ?_
    refine B_Y10_turned_0 ⟨_, q, Or.inl ⟨_, σ', m, hk, hw, Or.inl ⟨_, c10_needRank v ok hr (ord_lt hy), hk, hw, _, v.1, _, _, c9_turnedAt v okv _, hk, hw, (vTurn_rg okv _).1, (vTurn_rg okv _).2, ?_⟩⟩⟩
    rw [a3]
    exact hQ
  refine mx_retEH (by decide) (List.cons_ne_nil _ _) (Nat.le_of_ble_eq_true rfl) F.1 (by rw [F.2.2.1]; exact Nat.le_refl _) (by rw [F.2.2.2.1]; exact Nat.le_refl _) fun kb wb Q hk hw hQ => ?_
  exact B_YL_turned_0 ⟨_, q, Or.inl ⟨_, σ', inner, hk, hw, hQ⟩⟩
theorem S_turnX {σ : mx_S} {o : Nat} {w : List Int} {D : mt_D} {E : Option mt_D} {b : Bool} {x : Int} {D1 : mt_D} (h : hS σ o w D E b) (hb : sB σ ≤ o) (hv : vS D E x D1) {i : Nat} (hi : totD D1 D1.length ≤ i) : ∃ σ' : mx_S, hS σ' o w D E b ∧ fx o σ σ' ∧ mx_MSN YL_turned [mR o, mI x, mI (i : Int)] σ (some (mI (-900002))) σ' := by
  obtain ⟨σ', a, V, h', F, v, ok, hr, ov, hd, ⟨fs, q⟩, m⟩ := S_ord h hb hv
  have k1 : sK σ ≤ sK σ' + 1 := by rw [F.2.2.1]; exact Nat.le_add_right _ _
  have k2 : sW σ ≤ sW σ' + 6 := by rw [F.2.2.2.1]; exact Nat.le_add_right _ _
  refine ⟨mx_ex σ', h'.kp (fun _ _ _ => rfl), fx_ofX F, ?_⟩
  have inner : mx_MS Y10_turned [mR o, mI x, mI (i : Int)] σ (.inr ("java/util/NoSuchElementException", mx_ex σ')) := by
    refine mx_thrE (by decide) rfl (Nat.le_of_ble_eq_true rfl) F.1 k1 k2 fun kb wb Q hk hw hQ => ?_
    exact B_Y10_turned_0 ⟨_, q, Or.inl ⟨_, σ', m, Nat.le_trans (Nat.le_add_right _ _) hk, Nat.le_trans (Nat.le_add_right _ _) hw, Or.inr ⟨_, _, c10_needRankX v ok hr hi, hk, hw, hQ⟩⟩⟩
  refine mx_retEN (by decide) (List.cons_ne_nil _ _) (Nat.le_of_ble_eq_true rfl) F.1 k1 k2 fun kb wb Q hk hw hQ => ?_
  exact B_YL_turned_0 ⟨_, q, Or.inr (Or.inr ⟨_, inner, hk, hw, fun n q6 s7 hn e => by subst e; exact hQ n hn⟩)⟩
theorem S_rank {σ : mx_S} {o : Nat} {w : List Int} {D : mt_D} {E : Option mt_D} {b : Bool} {x : Int} {D1 : mt_D} (h : hS σ o w D E b) (hb : sB σ ≤ o) (hv : vS D E x D1) {i : Nat} {y : Nat × Nat} (hy : (ordS D1 D1.length)[i]? = some y) : ∃ σ' : mx_S, hS σ' o w D E b ∧ fx o σ σ' ∧ mx_MSN YL_rankOf [mR o, mI x, mI (y.1 : Int), mI (y.2 : Int)] σ (some (mI (i : Int))) σ' := by
  obtain ⟨σ', a, V, h', F, v, ok, hr, ov, hd, ⟨fs, q⟩, m⟩ := S_ord h hb hv
  obtain ⟨a1, a2, a3, a4, a5⟩ := ov.at ok hr hy
  have okv := ov.ok ok hr
  refine ⟨σ', h', fx_of F, mx_MSN_of ?_⟩
  have nP : mx_MS Y10_needPlace [mR (a + 1), mI (y.1 : Int), mI (y.2 : Int)] σ' (.inl (none, σ')) := by
    refine mx_pure (by decide) rfl (Nat.le_of_ble_eq_true rfl) fun kb wb Q hk hw hQ => ?_
    refine B_Y10_needPlace_0 ⟨fun c => absurd c (by omega), fun _ => ⟨_, v.2.1.1, _, _, c8_sizeAt v.2.1 _, hk, hw, fun _ => hQ, fun c => absurd ?_ c⟩⟩
    rw [rep_size hr]
    omega
  have nl : tLet V.1 (y.1 : Int) (y.2 : Int) ≠ 0 := by
    rw [rep_let hr]
    have := hd.1.at a5
    omega
  have e9 : V.2.2.2.2.1 ((y.1 : Int).toNat * 40 + (y.2 : Int).toNat) = (i : Int) := by
    rw [Int.toNat_natCast, Int.toNat_natCast, Nat.mul_comm]
    exact ov.2.2.2 i y hy
  have inner : mx_MS Y10_rankOf [mR o, mI x, mI (y.1 : Int), mI (y.2 : Int)] σ (.inl (some (mI (i : Int)), σ')) := by
    refine mx_retE (by decide) rfl (Nat.le_of_ble_eq_true rfl) F.1 (by rw [F.2.2.1]; exact Nat.le_refl _) (by rw [F.2.2.2.1]; exact Nat.le_refl _) fun kb wb Q hk hw hQ => ?_
    refine B_Y10_rankOf_0 ⟨_, q, Or.inl ⟨_, σ', m, hk, hw, _, v.1, _, _, c9_texts v, hk, hw, Or.inl ⟨_, _, c10_nSlot v.2.1 ok hr a4, hk, hw, _, v.1, _, _, c9_texts v, hk, hw, Or.inl ⟨_, nP, hk, hw, _, v.1, _, _, c9_rankAt v okv nl, hk, hw, ?_⟩⟩⟩⟩
    rw [e9]
    exact hQ
  refine mx_retEH (by decide) (List.cons_ne_nil _ _) (Nat.le_of_ble_eq_true rfl) F.1 (by rw [F.2.2.1]; exact Nat.le_refl _) (by rw [F.2.2.2.1]; exact Nat.le_refl _) fun kb wb Q hk hw hQ => ?_
  exact B_YL_rankOf_0 ⟨_, q, Or.inl ⟨_, σ', inner, hk, hw, hQ⟩⟩
/-- the place at a rank -/
noncomputable def oAt (D : mt_D) (i : Nat) : Nat × Nat := (ordS D D.length).getD i (0, 0)
noncomputable def runD (D : mt_D) (i : Nat) : Bool := decide (i = 0 ∨ trn D (oAt D i) ≠ trn D (oAt D (i - 1)))
theorem run_eq {V : mt_V} {D1 : mt_D} (ov : ordV V D1) (ok : okT V.1) (hr : rep V.1 D1) : cn (vRunB V) (totD D1 D1.length) = cn (runD D1) (totD D1 D1.length) := by
  refine cn_cong fun k hk => ?_
  rw [← ordS_len] at hk
  have hy := List.getElem?_eq_getElem hk
  obtain ⟨-, -, a3, -⟩ := ov.at ok hr hy
  unfold vRunB runD
  by_cases c : k = 0
  · simp [c]
  · have hk1 : k - 1 < (ordS D1 D1.length).length := by omega
    have hz := List.getElem?_eq_getElem hk1
    obtain ⟨-, -, b3, -⟩ := ov.at ok hr hz
    rw [show (k : Int) - 1 = ((k - 1 : Nat) : Int) by omega, a3, b3]
    unfold oAt
    rw [getD_of hy, getD_of hz]
theorem S_runs {σ : mx_S} {o : Nat} {w : List Int} {D : mt_D} {E : Option mt_D} {b : Bool} {x : Int} {D1 : mt_D} (h : hS σ o w D E b) (hb : sB σ ≤ o) (hv : vS D E x D1) : ∃ σ' : mx_S, hS σ' o w D E b ∧ fx o σ σ' ∧ mx_MSN YL_runs [mR o, mI x] σ (some (mI (cn (runD D1) (totD D1 D1.length)))) σ' := by
  obtain ⟨σ', a, V, h', F, v, ok, hr, ov, hd, ⟨fs, q⟩, m⟩ := S_ord h hb hv
  have okv := ov.ok ok hr
  have hP : tPl V.1 V.1.1 = totD D1 D1.length := by rw [hr.1]; exact tPl_tot hr _
  have hP2 : totD D1 D1.length ≤ 1000 := by
    have := totD_le (rep_len hr) D1.length
    have := hr.2.1
    omega
  refine ⟨σ', h', fx_of F, mx_MSN_of ?_⟩
  have inner : mx_MS Y10_runs [mR o, mI x] σ (.inl (some (mI (cn (runD D1) (totD D1 D1.length))), σ')) := by
    refine mx_retE (by decide) rfl (Nat.le_of_ble_eq_true rfl) F.1 (by rw [F.2.2.1]; exact Nat.le_refl _) (by rw [F.2.2.2.1]; exact Nat.le_refl _) fun kb wb Q hk hw hQ => ?_
    rw [← run_eq ov ok hr] at hQ
    exact B_Y10_runs_0 ⟨_, q, Or.inl ⟨_, σ', m, hk, hw, _, v.1, _, _, c9_runs v okv hP hP2, hk, hw, hQ⟩⟩
  refine mx_retEH (by decide) (List.cons_ne_nil _ _) (Nat.le_of_ble_eq_true rfl) F.1 (by rw [F.2.2.1]; exact Nat.le_refl _) (by rw [F.2.2.2.1]; exact Nat.le_refl _) fun kb wb Q hk hw hQ => ?_
  exact B_YL_runs_0 ⟨_, q, Or.inl ⟨_, σ', inner, hk, hw, hQ⟩⟩
theorem S_ahead {σ : mx_S} {o : Nat} {w : List Int} {D : mt_D} {E : Option mt_D} {b : Bool} {x : Int} {D1 : mt_D} (h : hS σ o w D E b) (hb : sB σ ≤ o) (hv : vS D E x D1) {l : Int} (hl : l = 36 ∨ (97 ≤ l ∧ l ≤ 101)) {r : Nat} (hr9 : r ≤ totD D1 D1.length) : ∃ σ' : mx_S, hS σ' o w D E b ∧ fx o σ σ' ∧ mx_MSN YL_ahead [mR o, mI x, mI l, mI (r : Int)] σ (some (mI (cn (fun i => decide (trn D1 (oAt D1 i) = l)) r))) σ' := by
  obtain ⟨σ', a, V, h', F, v, ok, hr, ov, hd, ⟨fs, q⟩, m⟩ := S_ord h hb hv
  have okv := ov.ok ok hr
  have hP : tPl V.1 V.1.1 = totD D1 D1.length := by rw [hr.1]; exact tPl_tot hr _
  have hP2 : totD D1 D1.length ≤ 1000 := by
    have := totD_le (rep_len hr) D1.length
    have := hr.2.1
    omega
  have e9 : cn (fun i => decide (vTurn V i = l)) r = cn (fun i => decide (trn D1 (oAt D1 i) = l)) r := by
    refine cn_cong fun k hk => ?_
    have hk2 : k < (ordS D1 D1.length).length := by rw [ordS_len]; omega
    have hy := List.getElem?_eq_getElem hk2
    obtain ⟨-, -, a3, -⟩ := ov.at ok hr hy
    rw [a3]
    unfold oAt
    rw [getD_of hy]
  refine ⟨σ', h', fx_of F, mx_MSN_of ?_⟩
  have inner : mx_MS Y10_ahead [mR o, mI x, mI l, mI (r : Int)] σ (.inl (some (mI (cn (fun i => decide (trn D1 (oAt D1 i) = l)) r)), σ')) := by
    refine mx_retE (by decide) rfl (Nat.le_of_ble_eq_true rfl) F.1 (by rw [F.2.2.1]; exact Nat.le_refl _) (by rw [F.2.2.2.1]; exact Nat.le_refl _) fun kb wb Q hk hw hQ => ?_
    rw [← e9] at hQ
    have K : mx_J Y10_ahead kb wb 30 [some (mR o), some (mI x), some (mI l), some (mI (r : Int)), some (mR a)] [] σ' Q := by
      refine B_Y10_ahead_30 ⟨fun c => absurd c (by omega), fun _ => ⟨_, v.1, _, _, c9_texts v, hk, hw, _, v.2.1.1, _, _, c8_places v.2.1 ok, hk, hw, fun _ => ⟨_, v.1, _, _, c9_turnedAhead v okv l (by omega), hk, hw, hQ⟩, fun c => absurd ?_ c⟩⟩
      rw [hP]
      omega
    refine B_Y10_ahead_0 ⟨_, q, Or.inl ⟨_, σ', m, hk, hw, _, _, c10_isLetter l, hk, hw, fun _ => K, fun c => ⟨fun _ => K, fun c2 => absurd ?_ c⟩⟩⟩
    rw [if_pos (by omega)]
    decide
  refine mx_retEH (by decide) (List.cons_ne_nil _ _) (Nat.le_of_ble_eq_true rfl) F.1 (by rw [F.2.2.1]; exact Nat.le_refl _) (by rw [F.2.2.2.1]; exact Nat.le_refl _) fun kb wb Q hk hw hQ => ?_
  exact B_YL_ahead_0 ⟨_, q, Or.inl ⟨_, σ', inner, hk, hw, hQ⟩⟩
theorem S_share {σ : mx_S} {o : Nat} {w : List Int} {D : mt_D} {E : Option mt_D} {b : Bool} {x : Int} {D1 : mt_D} (h : hS σ o w D E b) (hb : sB σ ≤ o) (hv : vS D E x D1) (hne : 0 < totD D1 D1.length) (hf : vf_n32 (FP.fdiv (FP.i2f (Int32.ofInt (cn (runD D1) (totD D1 D1.length) : Int))) (FP.i2f (Int32.ofInt (totD D1 D1.length : Int))))) : ∃ σ' : mx_S, hS σ' o w D E b ∧ fx o σ σ' ∧ mx_MS Y10_runShare [mR o, mI x] σ (.inl (some (mF (FP.fdiv (FP.i2f (Int32.ofInt (cn (runD D1) (totD D1 D1.length) : Int))) (FP.i2f (Int32.ofInt (totD D1 D1.length : Int))))), σ')) := by
  obtain ⟨σ', a, V, h', F, v, ok, hr, ov, hd, ⟨fs, q⟩, m⟩ := S_ord h hb hv
  have okv := ov.ok ok hr
  have hP : tPl V.1 V.1.1 = totD D1 D1.length := by rw [hr.1]; exact tPl_tot hr _
  have hP2 : totD D1 D1.length ≤ 1000 := by
    have := totD_le (rep_len hr) D1.length
    have := hr.2.1
    omega
  refine ⟨σ', h', fx_of F, ?_⟩
  refine mx_retE (by decide) rfl (Nat.le_of_ble_eq_true rfl) F.1 (by rw [F.2.2.1]; exact Nat.le_refl _) (by rw [F.2.2.2.1]; exact Nat.le_refl _) fun kb wb Q hk hw hQ => ?_
  refine B_Y10_runShare_0 ⟨_, q, Or.inl ⟨_, σ', m, hk, hw, _, v.1, _, _, c9_texts v, hk, hw, _, v.2.1.1, _, _, c8_places v.2.1 ok, hk, hw, ?_⟩⟩
  rw [hP]
  refine ⟨fun _ => ⟨_, v.1, _, _, c9_runs v okv hP hP2, hk, hw, ?_⟩, fun c => absurd (by omega) c⟩
  rw [run_eq ov ok hr]
  exact ⟨hf, hQ⟩
theorem S_sound {σ : mx_S} {o : Nat} {w : List Int} {D : mt_D} {E : Option mt_D} {b : Bool} (h : hS σ o w D E b) (hb : sB σ ≤ o) : ∃ σ' : mx_S, hS σ' o w D E b ∧ fx o σ σ' ∧ mx_MS Y10_isSound [mR o] σ (.inl (some (mI 1), σ')) := by
  obtain ⟨R, A, hO, okr, hw, hl, hh⟩ := h
  -- shelves first
  have first : ∃ (σ1 : mx_S) (A1 : mt_H), isO σ1 o R A1 ∧ hA A1 D E b ∧ fr (o + 3) (o + 85) σ σ1 ∧ ∀ (kb wb : Nat) (Q : mx_R → Prop), sK σ ≤ kb → sW σ ≤ wb → mx_J Y2_isWhole kb wb 2 [some (mR (o + 3)), some (mI 6), none] [] σ1 Q → mx_J Y2_isWhole kb wb 2 [some (mR (o + 3)), some (mI 0), none] [] σ Q := by
    cases E with
    | none =>
      refine ⟨σ, A, hO, hh, fr.rf, fun kb wb Q hk hw K => ?_⟩
      obtain ⟨-, -, -, -, -, -, g7, g8, -⟩ := hh
      exact j2_iw hO.2.2 hk hw K 6 0 rfl (fun i _ h6 => by
        by_cases c : i = 0
        · rw [c]; exact (g8 rfl).1
        · exact g7 i (by omega) h6)
    | some D1 =>
      obtain ⟨a, V, hM, l1, l2, v, ⟨ok, hr, ho⟩, hd, put⟩ := lens hO hh (Or.inr ⟨rfl, rfl⟩ : vS D (some D1) 0 D1)
      obtain ⟨g1, g2, g3, g4, g5, g6, g7, g8, g9⟩ := id hh
      obtain ⟨s0, vo, dk⟩ := g9 D1 rfl
      obtain ⟨w0, w1, w2, ⟨f, w3, w3'⟩, w4, w5⟩ := id hO.2.2
      obtain ⟨σ', V', v', e, o', F, m⟩ := c9_isInOrder w2 (by omega) vo.1 vo.2.1 dk.1 dk.2.1 vo.2.2
      have FF : fr (o + 3) (o + 85) σ σ' := F.mono (by omega) (by omega)
      have hO' : isO σ' o R (A.1, V', A.2.2) := by
        obtain ⟨⟨x2, x3, x4, x5, x6, c, q0, q1, q2⟩, q3, q4⟩ := hO
        exact ⟨⟨x2, x3, x4, x5, x6, c, q0, q1, (F.at (by omega)).trans q2⟩, q3.kp (fun q q1 q2 => F.at (by omega)), ⟨(F.at (by omega)).trans w0, w1.kp (fun q q1 q2 => F.at (by omega)), v', ⟨f, (F.at (by omega)).trans w3, w3'⟩, (F.at (by omega)).trans w4, w5.kp (fun q q1 q2 => F.at (by omega))⟩⟩
      have hh' : hA (A.1, V', A.2.2) D (some D1) b := by
        refine ⟨g1, g2, g3, g4, g5, by show okT V'.1; rw [e]; exact vo.1, g7, g8, fun D2 hD2 => ?_⟩
        cases hD2
        exact ⟨s0, ⟨by show okT V'.1; rw [e]; exact vo.1, by show rep V'.1 D1; rw [e]; exact vo.2.1, Or.inr o'⟩, dk⟩
      refine ⟨σ', _, hO', hh', FF, fun kb wb Q hk hw K => ?_⟩
      have hk1 : sK σ' ≤ kb := by rw [F.2.2.1]; exact hk
      have hw1 : sW σ' ≤ wb := by rw [F.2.2.2.1]; exact hw
      refine B_Y2_isWhole_2 ⟨_, w0, _, rfl, _, _, _, w4, fun c => absurd c (by omega), fun _ => ⟨_, w0, some (o + 3 + 34), _, c2_shelf hO.2.2 (i := 0) (by omega), hk, hw, _, w0, _, rfl, _, _, w4, by omega, by omega, _, rfl, fun c => absurd (c.symm.trans s0) (by decide), fun _ => ⟨fun c => (by cases c), fun a6 e6 => ?_⟩⟩⟩
      cases e6
      refine ⟨_, w2.1, _, σ', m, hk1, hw1, fun _ => B_Y2_isWhole_40 ?_, fun c => absurd (by decide) c⟩
      exact j2_iw hO'.2.2 hk1 hw1 K 5 1 rfl (fun i h1 h6 => g7 i (by omega) h6)
  obtain ⟨σ1, A1, hO1, hh1, F1, K1⟩ := first
  obtain ⟨g1, g2, g3, g4, g5, g6, g7, g8, g9⟩ := id hh1
  obtain ⟨σ2, V2, w2, e2, o2, F2, K2⟩ := j2_last hO1.2.2 (by rw [F1.1]; omega) g1 g2.1 g2.2.1 g3
  have F : fr (o + 3) (o + 85) σ σ2 := F1.tr (F2.mono (by omega) (by omega))
  have FF : fr o (o + 85) σ σ2 := F.mono (by omega) (by omega)
  have hO2 : isO σ2 o R (V2, A1.2) := by
    obtain ⟨⟨x2, x3, x4, x5, x6, c, q0, q1, q2⟩, q3, q4⟩ := hO1
    exact ⟨⟨x2, x3, x4, x5, x6, c, q0, q1, (F2.at (by omega)).trans q2⟩, q3.kp (fun q q1 q2 => F2.at (by omega)), w2⟩
  have hh2 : hA (V2, A1.2) D E b := ⟨⟨by show okT V2.1; rw [e2]; exact g1.1, by show rep V2.1 D; rw [e2]; exact g1.2.1, Or.inr o2⟩, g2, g3, g4, g5, g6, g7, g8, g9⟩
  refine ⟨σ2, ⟨R, _, hO2, okr, hw, hl, hh2⟩, fx_of FF, ?_⟩
  have inner : mx_MS Y2_isWhole [mR (o + 3)] σ (.inl (some (mI 1), σ2)) := by
    refine mx_retE (by decide) rfl (Nat.le_of_ble_eq_true rfl) F.1 (by rw [F.2.2.1]; exact Nat.le_refl _) (by rw [F.2.2.2.1]; exact Nat.le_refl _) fun kb wb Q hk hw hQ => ?_
    have hk0 : sK σ ≤ kb := by rw [← F.2.2.1]; exact hk
    have hw0 : sW σ ≤ wb := by rw [← F.2.2.2.1]; exact hw
    exact B_Y2_isWhole_0 (K1 kb wb Q hk0 hw0 (K2 kb wb Q (by rw [F1.2.2.1]; exact hk0) (by rw [F1.2.2.2.1]; exact hw0) hQ))
  obtain ⟨⟨x2, x3, x4, x5, x6, c, q0, q1, q2⟩, q3, q4⟩ := hO
  refine mx_retE (by decide) rfl (Nat.le_of_ble_eq_true rfl) F.1 (by rw [F.2.2.1]; exact Nat.le_refl _) (by rw [F.2.2.2.1]; exact Nat.le_refl _) fun kb wb Q hk hw hQ => ?_
  exact B_Y10_isSound_0 ⟨_, q2, _, rfl, _, q4.1, _, σ2, inner, hk, hw, by decide, by decide, hQ⟩
