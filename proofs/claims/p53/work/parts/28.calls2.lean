/-! The calls that the law makes: rows, documents, snapshots, backward search. -/
theorem c10_plain {σ : mx_S} {o : Nat} {R : mt_R} {A : mt_H} {w : List Int} (hO : isO σ o R A) (okr : okR R) (hw : repR R w) (hl : letW w) (hn : 0 < w.length) : mx_MS Y10_needPlainRow [mR o] σ (.inl (none, σ)) := by
  have hp := c6_isPlain hO.2.1 okr (repR_pl hw hl)
  rw [if_pos (by have := hw.1; omega)] at hp
  obtain ⟨⟨x2, x3, x4, x5, x6, c, q0, q1, q2⟩, q3, q4⟩ := hO
  refine mx_pure (by decide) rfl (Nat.le_of_ble_eq_true rfl) fun kb wb Q hk hw hQ => ?_
  exact B_Y10_needPlainRow_0 ⟨_, q2, _, rfl, _, q3.1, _, _, hp, hk, hw, fun _ => hQ, fun c => absurd (by decide) c⟩
theorem c10_plainX {σ : mx_S} {o : Nat} {R : mt_R} {A : mt_H} (hO : isO σ o R A) (okr : okR R) (hw : repR R []) : mx_MS Y10_needPlainRow [mR o] σ (.inr ("java/lang/UnsupportedOperationException", mx_ex σ)) := by
  have hp := c6_isPlain hO.2.1 okr (repR_pl hw (fun x h => by cases h))
  have e0 : R.1 = 0 := hw.1
  rw [if_neg (by omega)] at hp
  obtain ⟨⟨x2, x3, x4, x5, x6, c, q0, q1, q2⟩, q3, q4⟩ := hO
  refine mx_thrE (by decide) rfl (Nat.le_of_ble_eq_true rfl) rfl (Nat.le_add_right _ _) (Nat.le_add_right _ _) fun kb wb Q hk hw hQ => ?_
  exact B_Y10_needPlainRow_0 ⟨_, q2, _, rfl, _, q3.1, _, _, hp, Nat.le_trans (Nat.le_add_right _ _) hk, Nat.le_trans (Nat.le_add_right _ _) hw, fun c => absurd rfl c, fun _ => ⟨hk, hw, hQ⟩⟩
theorem c10_simple {σ : mx_S} {o : Nat} {R : mt_R} {A : mt_H} {w : List Int} (hO : isO σ o R A) (okr : okR R) (hw : repR R w) (hl : letW w) (hn : 0 < w.length) : mx_MS Y10_needSimpleRow [mR o] σ (.inl (none, σ)) := by
  have hp := c6_isSimple hO.2.1 okr (repR_pl hw hl)
  rw [if_pos (by have := hw.1; omega)] at hp
  obtain ⟨⟨x2, x3, x4, x5, x6, c, q0, q1, q2⟩, q3, q4⟩ := hO
  refine mx_pure (by decide) rfl (Nat.le_of_ble_eq_true rfl) fun kb wb Q hk hw hQ => ?_
  exact B_Y10_needSimpleRow_0 ⟨_, q2, _, rfl, _, q3.1, _, _, hp, hk, hw, fun _ => hQ, fun c => absurd (by decide) c⟩
theorem repR_app {R : mt_R} {w : List Int} {x : Int} (h : repR R w) : repR (R.1 + 1, fun j => if j = R.1 then x else R.2 j) (w ++ [x]) := by
  have h1 := h.1
  refine ⟨by rw [List.length_append]; show R.1 + 1 = w.length + 1; omega, fun i hi => ?_⟩
  rw [List.length_append] at hi
  have hi : i < w.length + 1 := hi
  show (if i = R.1 then x else R.2 i) = _
  by_cases c : i = R.1
  · rw [if_pos c, List.getD_eq_getElem?_getD, List.getElem?_append_right (by omega), show i - w.length = 0 by omega]
    rfl
  · rw [if_neg c, h.2 i (by omega), List.getD_eq_getElem?_getD, List.getD_eq_getElem?_getD, List.getElem?_append_left (by omega)]
theorem letW_app {w : List Int} {x : Int} (h : letW w) (hx : 97 ≤ x ∧ x ≤ 101) : letW (w ++ [x]) := fun y hy => by
  rcases List.mem_append.mp hy with q | q
  · exact h y q
  · simp at q
    rw [q]
    exact hx
/-- the object with another row -/
theorem isO_row {σ σ' : mx_S} {o : Nat} {R R' : mt_R} {A : mt_H} (h : isO σ o R A) (g : isR σ' (o + 1) R') (F : fr (o + 1) (o + 1 + 2) σ σ') : isO σ' o R' A := by
  obtain ⟨⟨x2, x3, x4, x5, x6, c, q0, q1, q2⟩, q3, q4⟩ := h
  exact ⟨⟨x2, x3, x4, x5, x6, c, q0, q1, (F.at (by omega)).trans q2⟩, g, q4.kp (fun q q1 q2 => F.at (by omega))⟩
theorem S_type {σ : mx_S} {o : Nat} {w : List Int} {D : mt_D} {E : Option mt_D} {b : Bool} (h : hS σ o w D E b) (hb : sB σ ≤ o) (h20 : w.length < 20) {x : Int} (hx : 97 ≤ x ∧ x ≤ 101) : ∃ σ' : mx_S, hS σ' o (w ++ [x]) D E b ∧ fr o (o + 85) σ σ' ∧ mx_MS YL_type [mR o, mI x] σ (.inl (some (mI ((w.length + 1 : Nat) : Int)), σ')) := by
  obtain ⟨R, A, hO, okr, hw, hl, hh⟩ := h
  have e1 := hw.1
  obtain ⟨σ', r', F, m⟩ := c6_append hO.2.1 (by omega) (by omega) (x := x) (by omega)
  have FF : fr o (o + 85) σ σ' := F.mono (by omega) (by omega)
  have hO' := isO_row hO r' F
  have okr' : okR (R.1 + 1, fun j => if j = R.1 then x else R.2 j) := by
    refine ⟨by show R.1 + 1 ≤ 20; omega, fun j => ?_⟩
    show 0 ≤ (if j = R.1 then x else R.2 j) ∧ (if j = R.1 then x else R.2 j) ≤ 65535
    split
    · omega
    · exact okr.2 j
  refine ⟨σ', ⟨_, A, hO', okr', repR_app hw, letW_app hl hx, hh⟩, FF, ?_⟩
  have hs := c10_isSign (σ := σ) (x := x) (by omega)
  rw [if_pos (by omega)] at hs
  obtain ⟨⟨x2, x3, x4, x5, x6, c, q0, q1, q2⟩, q3, q4⟩ := hO
  have inner : mx_MS Y10_type [mR o, mI x] σ (.inl (some (mI ((w.length + 1 : Nat) : Int)), σ')) := by
    refine mx_retE (by decide) rfl (Nat.le_of_ble_eq_true rfl) FF.1 (by rw [FF.2.2.1]; exact Nat.le_refl _) (by rw [FF.2.2.2.1]; exact Nat.le_refl _) fun kb wb Q hk hw hQ => ?_
    have hk0 : sK σ ≤ kb := by rw [← FF.2.2.1]; exact hk
    have hw0 : sW σ ≤ wb := by rw [← FF.2.2.2.1]; exact hw
    rw [← e1] at hQ
    exact B_Y10_type_0 ⟨_, _, hs, hk0, hw0, fun _ => ⟨_, q2, _, rfl, _, q3.1, _, _, c6_size q3, hk0, hw0, fun _ => ⟨_, q2, _, rfl, _, q3.1, σ', m, hk, hw, _, (F.at (by omega)).trans q2, _, rfl, _, r'.1, _, _, c6_size r', hk, hw, hQ⟩, fun c => absurd (by omega) c⟩, fun c => absurd (by decide) c⟩
  refine mx_retEH (by decide) (List.cons_ne_nil _ _) (Nat.le_of_ble_eq_true rfl) FF.1 (by rw [FF.2.2.1]; exact Nat.le_refl _) (by rw [FF.2.2.2.1]; exact Nat.le_refl _) fun kb wb Q hk hw hQ => ?_
  exact B_YL_type_0 ⟨_, q2, Or.inl ⟨_, σ', inner, hk, hw, hQ⟩⟩
theorem S_typeX {σ : mx_S} {o : Nat} {w : List Int} {D : mt_D} {E : Option mt_D} {b : Bool} (h : hS σ o w D E b) : hS (mx_ex σ) o w D E b ∧ fx o σ (mx_ex σ) ∧ mx_MSN YL_type [mR o, mI 102] σ (some (mI (-900001))) (mx_ex σ) := by
  obtain ⟨fs, q⟩ := h.hd
  refine ⟨h.kp (fun _ _ _ => rfl), fx_ofX fr.rf, ?_⟩
  have hs := c10_isSign (σ := σ) (x := 102) (by omega)
  rw [if_neg (by omega)] at hs
  have inner : mx_MS Y10_type [mR o, mI 102] σ (.inr ("java/lang/IllegalArgumentException", mx_ex σ)) := by
    refine mx_thrE (by decide) rfl (Nat.le_of_ble_eq_true rfl) rfl (Nat.le_add_right _ _) (Nat.le_add_right _ _) fun kb wb Q hk hw hQ => ?_
    exact B_Y10_type_0 ⟨_, _, hs, Nat.le_trans (Nat.le_add_right _ _) hk, Nat.le_trans (Nat.le_add_right _ _) hw, fun c => absurd rfl c, fun _ => ⟨hk, hw, hQ⟩⟩
  refine mx_retEN (by decide) (List.cons_ne_nil _ _) (Nat.le_of_ble_eq_true rfl) rfl (Nat.le_add_right _ _) (Nat.le_add_right _ _) fun kb wb Q hk hw hQ => ?_
  exact B_YL_type_0 ⟨_, q, Or.inr (Or.inl ⟨_, inner, hk, hw, fun n q6 s7 hn e => by subst e; exact hQ n hn⟩)⟩
theorem S_wipe {σ : mx_S} {o : Nat} {w : List Int} {D : mt_D} {E : Option mt_D} {b : Bool} (h : hS σ o w D E b) (hb : sB σ ≤ o) : ∃ σ' : mx_S, hS σ' o [] D E b ∧ fr o (o + 85) σ σ' ∧ mx_MS Y10_wipe [mR o] σ (.inl (some (mI (w.length : Int)), σ')) := by
  obtain ⟨R, A, hO, okr, hw, hl, hh⟩ := h
  obtain ⟨σ', r', F, m⟩ := c6_empty hO.2.1 (by omega)
  have FF : fr o (o + 85) σ σ' := F.mono (by omega) (by omega)
  have hO' := isO_row hO r' F
  refine ⟨σ', ⟨_, A, hO', ⟨Nat.zero_le _, okr.2⟩, ⟨rfl, fun i hi => absurd hi (Nat.not_lt_zero _)⟩, (fun x hx => by cases hx), hh⟩, FF, ?_⟩
  have e1 := hw.1
  obtain ⟨⟨x2, x3, x4, x5, x6, c, q0, q1, q2⟩, q3, q4⟩ := hO
  refine mx_retE (by decide) rfl (Nat.le_of_ble_eq_true rfl) FF.1 (by rw [FF.2.2.1]; exact Nat.le_refl _) (by rw [FF.2.2.2.1]; exact Nat.le_refl _) fun kb wb Q hk hw hQ => ?_
  have hk0 : sK σ ≤ kb := by rw [← FF.2.2.1]; exact hk
  have hw0 : sW σ ≤ wb := by rw [← FF.2.2.2.1]; exact hw
  rw [← e1] at hQ
  exact B_Y10_wipe_0 ⟨_, q2, _, rfl, _, q3.1, _, _, c6_size q3, hk0, hw0, _, q2, _, rfl, _, q3.1, σ', m, hk, hw, hQ⟩
theorem dOK_app {D : mt_D} {w : List Int} (h : dOK D) (hl : letW w) (hn : 0 < w.length) (h12 : w.length ≤ 12) (h3 : D.length < 3) : dOK (D ++ [w]) := by
  obtain ⟨g1, g2, g3, g4⟩ := h
  have e : ∀ k, (D ++ [w]).getD k [] = if k = D.length then w else D.getD k [] := fun k => by
    by_cases c : k < D.length
    · rw [if_neg (by omega), app_lt c]
    · by_cases d : k = D.length
      · rw [if_pos d, d, app_eq]
      · rw [if_neg d, List.getD_eq_getElem?_getD, List.getD_eq_getElem?_getD, List.getElem?_eq_none (by rw [List.length_append]; show D.length + 1 ≤ k; omega), List.getElem?_eq_none (by omega)]
  refine ⟨fun k x hx => ?_, fun k hk => ?_, by rw [List.length_append]; show D.length + 1 ≤ 3; omega, fun k => ?_⟩
  · rw [e] at hx
    split at hx
    · exact hl x hx
    · exact g1 k x hx
  · rw [List.length_append] at hk
    have hk : k < D.length + 1 := hk
    unfold lenD
    rw [e]
    split
    · exact hn
    · exact g2 k (by omega)
  · unfold lenD
    rw [e]
    split
    · exact h12
    · exact g4 k
theorem S_add {σ : mx_S} {o : Nat} {w : List Int} {D : mt_D} {E : Option mt_D} (h : hS σ o w D E false) (hb : sB σ ≤ o) (hn : 0 < w.length) (h12 : w.length ≤ 12) (h3 : D.length < 3) : ∃ σ' : mx_S, hS σ' o [] (D ++ [w]) E false ∧ fx o σ σ' ∧ mx_MSN YL_add [mR o] σ (some (mI (D.length : Int))) σ' := by
  obtain ⟨R, A, hO, okr, hw, hl, hh⟩ := h
  obtain ⟨g1, g2, g3, g4, g5, g6, g7, g8, g9⟩ := hh
  have gA := g4 rfl
  obtain ⟨σ1, A1, k1, k2, k3, k4, k5, k6, k7, F1, m1⟩ := c2_takeIn hO.2.2 (by omega) hO.2.1 okr hw (by omega) g1 (by omega) g5 (by rw [gA.1]; omega)
  have r1 : isR σ1 (o + 1) R := hO.2.1.kp (fun q q1 q2 => F1.at (by omega))
  obtain ⟨σ2, r2, F2, m2⟩ := c6_empty r1 (by rw [F1.1]; omega)
  have hP := c10_plain hO okr hw hl hn
  have h1 := g1.2.1.1
  obtain ⟨⟨x2, x3, x4, x5, x6, c, q0, q1, q2⟩, q3, q4⟩ := hO
  have hR := c2_hasRoom q4 (by omega) (by omega)
  have a2 : sH σ2 o = sH σ o := (F2.at (by omega)).trans (F1.at (by omega))
  have F3 : fr o (o + 85) σ2 (mx_wr σ2 o (.inl (10, [mR (o + 1), mR (o + 3), mR x2, mR x3, mR x4, mR x5, mR x6, mI (mx_w (c + 1))]))) := fr.wr (by omega) (by omega)
  have F : fr o (o + 85) σ (mx_wr σ2 o (.inl (10, [mR (o + 1), mR (o + 3), mR x2, mR x3, mR x4, mR x5, mR x6, mI (mx_w (c + 1))]))) := ((F1.mono (lo' := o) (hi' := o + 85) (by omega) (by omega)).tr (F2.mono (by omega) (by omega))).tr F3
  refine ⟨mx_wr σ2 o (.inl (10, [mR (o + 1), mR (o + 3), mR x2, mR x3, mR x4, mR x5, mR x6, mI (mx_w (c + 1))])), ⟨(0, R.2), A1, ⟨⟨x2, x3, x4, x5, x6, _, trivial, trivial, wr_at⟩, r2.kp (fun q q1 q2 => wr_ne (by omega)), k1.kp (fun q q1 q2 => (wr_ne (by omega)).trans (F2.at (by omega)))⟩, ⟨Nat.zero_le _, okr.2⟩, ⟨rfl, fun i hi => absurd hi (Nat.not_lt_zero _)⟩, (fun x hx => by cases hx), ⟨k2, dOK_app g2 hl hn h12 h3, ?_, fun _ => ?_, ?_, ?_, ?_, ?_, ?_⟩⟩, fx_of F, mx_MSN_of ?_⟩
  · rw [k5, List.length_append]
    exact ⟨by show D.length + 1 ≤ 12; omega, Or.inl (sgA_set gA)⟩
  · rw [k5, List.length_append]
    exact sgA_set gA
  · rw [k6, List.length_append]
    rfl
  · rw [k3]
    exact g6
  · rw [k4]
    exact g7
  · rw [k4, k7]
    exact g8
  · rw [k3, k4]
    exact g9
  have inner : mx_MS Y10_add [mR o] σ (.inl (some (mI (D.length : Int)), mx_wr σ2 o (.inl (10, [mR (o + 1), mR (o + 3), mR x2, mR x3, mR x4, mR x5, mR x6, mI (mx_w (c + 1))])))) := by
    refine mx_retE (by decide) rfl (Nat.le_of_ble_eq_true rfl) F.1 (by rw [F.2.2.1]; exact Nat.le_refl _) (by rw [F.2.2.2.1]; exact Nat.le_refl _) fun kb wb Q hk hw hQ => ?_
    have hk0 : sK σ ≤ kb := by rw [← F.2.2.1]; exact hk
    have hw0 : sW σ ≤ wb := by rw [← F.2.2.2.1]; exact hw
    have hk1 : sK σ1 ≤ kb := by rw [F1.2.2.1]; exact hk0
    have hw1 : sW σ1 ≤ wb := by rw [F1.2.2.2.1]; exact hw0
    refine B_Y10_add_0 ⟨_, q2, Or.inl ⟨_, hP, hk0, hw0, _, q2, _, rfl, _, q4.1, _, _, hR, hk0, hw0, fun _ => ⟨_, q2, _, rfl, _, q2, _, rfl, _, q4.1, _, σ1, m1, hk1, hw1, _, (F1.at (by omega)).trans q2, _, rfl, _, r1.1, σ2, m2, by rw [F2.2.2.1]; exact hk1, by rw [F2.2.2.2.1]; exact hw1, _, a2.trans q2, _, rfl, _, a2.trans q2, Nat.le_of_ble_eq_true rfl, by rw [F2.1, F1.1]; exact hb, fun σ3 e3 => ?_⟩, fun c => absurd (by decide) c⟩⟩
    subst e3
    exact hQ
  refine mx_retEH (by decide) (List.cons_ne_nil _ _) (Nat.le_of_ble_eq_true rfl) F.1 (by rw [F.2.2.1]; exact Nat.le_refl _) (by rw [F.2.2.2.1]; exact Nat.le_refl _) fun kb wb Q hk hw hQ => ?_
  exact B_YL_add_0 ⟨_, q2, Or.inl ⟨_, _, inner, hk, hw, hQ⟩⟩
theorem S_addX {σ : mx_S} {o : Nat} {D : mt_D} {E : Option mt_D} {b : Bool} (h : hS σ o [] D E b) : hS (mx_ex σ) o [] D E b ∧ fx o σ (mx_ex σ) ∧ mx_MSN YL_add [mR o] σ (some (mI (-900001))) (mx_ex σ) := by
  refine ⟨h.kp (fun _ _ _ => rfl), fx_ofX fr.rf, ?_⟩
  obtain ⟨R, A, hO, okr, hw, hl, hh⟩ := h
  have hP := c10_plainX hO okr hw
  obtain ⟨⟨x2, x3, x4, x5, x6, c, q0, q1, q2⟩, q3, q4⟩ := hO
  have inner : mx_MS Y10_add [mR o] σ (.inr ("java/lang/UnsupportedOperationException", mx_ex σ)) := by
    refine mx_thrE (by decide) rfl (Nat.le_of_ble_eq_true rfl) rfl (Nat.le_add_right _ _) (Nat.le_add_right _ _) fun kb wb Q hk hw hQ => ?_
    exact B_Y10_add_0 ⟨_, q2, Or.inr ⟨_, _, hP, hk, hw, hQ⟩⟩
  refine mx_retEN (by decide) (List.cons_ne_nil _ _) (Nat.le_of_ble_eq_true rfl) rfl (Nat.le_add_right _ _) (Nat.le_add_right _ _) fun kb wb Q hk hw hQ => ?_
  exact B_YL_add_0 ⟨_, q2, Or.inr (Or.inl ⟨_, inner, hk, hw, fun n q6 s7 hn e => by subst e; exact hQ n hn⟩)⟩
theorem S_docX {σ : mx_S} {o : Nat} {w : List Int} {D : mt_D} {b : Bool} (h : hS σ o w D none b) : hS (mx_ex σ) o w D none b ∧ fx o σ (mx_ex σ) ∧ mx_MSN YL_documents [mR o, mI 0] σ (some (mI (-900001))) (mx_ex σ) := by
  refine ⟨h.kp (fun _ _ _ => rfl), fx_ofX fr.rf, ?_⟩
  obtain ⟨R, A, hO, okr, hw, hl, ⟨g1, g2, g3, g4, g5, g6, g7, g8, g9⟩⟩ := h
  have hN := c10_nViewN hO (c2_viewN hO.2.2 (fun i h6 => by
    by_cases c : i = 0
    · rw [c]; exact (g8 rfl).1
    · exact g7 i (by omega) h6))
  obtain ⟨⟨x2, x3, x4, x5, x6, c, q0, q1, q2⟩, q3, q4⟩ := hO
  have inner : mx_MS Y10_documents [mR o, mI 0] σ (.inr ("java/lang/IndexOutOfBoundsException", mx_ex σ)) := by
    refine mx_thrE (by decide) rfl (Nat.le_of_ble_eq_true rfl) rfl (Nat.le_add_right _ _) (Nat.le_add_right _ _) fun kb wb Q hk hw hQ => ?_
    exact B_Y10_documents_0 ⟨_, q2, Or.inr ⟨_, _, hN, hk, hw, hQ⟩⟩
  refine mx_retEN (by decide) (List.cons_ne_nil _ _) (Nat.le_of_ble_eq_true rfl) rfl (Nat.le_add_right _ _) (Nat.le_add_right _ _) fun kb wb Q hk hw hQ => ?_
  exact B_YL_documents_0 ⟨_, q2, Or.inr ⟨_, inner, hk, hw, fun n q6 s7 hn e => by subst e; exact hQ n hn⟩⟩
theorem S_len {σ : mx_S} {o : Nat} {w : List Int} {D : mt_D} {E : Option mt_D} {b : Bool} (h : hS σ o w D E b) {k : Nat} (hk9 : k < D.length) : mx_MSN YL_lengthOf [mR o, mI (-1), mI (k : Int)] σ (some (mI (lenD D k : Int))) σ := by
  obtain ⟨R, A, hO, okr, hw, hl, hh⟩ := h
  obtain ⟨a, V, hM, l1, l2, v, ⟨ok, hr, ho⟩, hd, put⟩ := lens hO hh (Or.inl ⟨rfl, rfl⟩ : vS D E (-1) D)
  have hN := c10_nView hO hM
  obtain ⟨⟨x2, x3, x4, x5, x6, c, q0, q1, q2⟩, q3, q4⟩ := hO
  refine mx_MSN_of ?_
  have inner : mx_MS Y10_lengthOf [mR o, mI (-1), mI (k : Int)] σ (.inl (some (mI (lenD D k : Int)), σ)) := by
    refine mx_pure (by decide) rfl (Nat.le_of_ble_eq_true rfl) fun kb wb Q hk hw hQ => ?_
    rw [← rep_size hr] at hQ
    exact B_Y10_lengthOf_0 ⟨_, q2, Or.inl ⟨_, _, hN, hk, hw, _, v.1, _, _, c9_texts v, hk, hw, Or.inl ⟨_, _, c10_nSlot v.2.1 ok hr hk9, hk, hw, _, v.2.1.1, _, _, c8_sizeAt v.2.1 _, hk, hw, hQ⟩⟩⟩
  refine mx_retEH (by decide) (List.cons_ne_nil _ _) (Nat.le_of_ble_eq_true rfl) rfl (Nat.le_refl _) (Nat.le_refl _) fun kb wb Q hk hw hQ => ?_
  exact B_YL_lengthOf_0 ⟨_, q2, Or.inl ⟨_, _, inner, hk, hw, hQ⟩⟩
theorem S_snap {σ : mx_S} {o : Nat} {w : List Int} {D : mt_D} {b : Bool} (h : hS σ o w D none b) (hb : sB σ ≤ o) : ∃ σ' : mx_S, hS σ' o w D (some D) b ∧ fx o σ σ' ∧ mx_MSN YL_snapshot [mR o] σ (some (mI 0)) σ' := by
  obtain ⟨R, A, hO, okr, hw, hl, hh⟩ := h
  obtain ⟨g1, g2, g3, g4, g5, g6, g7, g8, g9⟩ := hh
  obtain ⟨z1, z2⟩ := g8 rfl
  obtain ⟨σ1, A1, k1, k2, k3, k4, k5, k6, k7, F1, m1⟩ := c2_take hO.2.2 (by omega) g1 g6 z1 z2
  have hC := c2_canTake hO.2.2 (fun i h6 => by
    by_cases c : i = 0
    · rw [c]; exact z1
    · exact g7 i (by omega) h6) (by omega)
  obtain ⟨⟨x2, x3, x4, x5, x6, c, q0, q1, q2⟩, q3, q4⟩ := hO
  have a1 : sH σ1 o = sH σ o := F1.at (by omega)
  have F3 : fr o (o + 85) σ1 (mx_wr σ1 o (.inl (10, [mR (o + 1), mR (o + 3), mR x2, mR x3, mR x4, mR x5, mR x6, mI (mx_w (c + 1))]))) := fr.wr (by omega) (by omega)
  have F : fr o (o + 85) σ (mx_wr σ1 o (.inl (10, [mR (o + 1), mR (o + 3), mR x2, mR x3, mR x4, mR x5, mR x6, mI (mx_w (c + 1))]))) := (F1.mono (lo' := o) (hi' := o + 85) (by omega) (by omega)).tr F3
  refine ⟨mx_wr σ1 o (.inl (10, [mR (o + 1), mR (o + 3), mR x2, mR x3, mR x4, mR x5, mR x6, mI (mx_w (c + 1))])), ⟨R, A1, ⟨⟨x2, x3, x4, x5, x6, _, trivial, trivial, wr_at⟩, q3.kp (fun q q1 q2 => (wr_ne (by omega)).trans (F1.at (by omega))), k1.kp (fun q q1 q2 => wr_ne (by omega))⟩, okr, hw, hl, ⟨by rw [k2]; exact g1, g2, by rw [k6]; exact g3, by rw [k6]; exact g4, by rw [k7]; exact g5, k3.1, fun i h0 h6 => by rw [k5 i h0]; exact g7 i h0 h6, (fun c => by cases c), fun D2 hD2 => ?_⟩⟩, fx_of F, mx_MSN_of ?_⟩
  · cases hD2
    exact ⟨k4, k3, g2⟩
  have inner : mx_MS Y10_snapshot [mR o] σ (.inl (some (mI 0), mx_wr σ1 o (.inl (10, [mR (o + 1), mR (o + 3), mR x2, mR x3, mR x4, mR x5, mR x6, mI (mx_w (c + 1))])))) := by
    refine mx_retE (by decide) rfl (Nat.le_of_ble_eq_true rfl) F.1 (by rw [F.2.2.1]; exact Nat.le_refl _) (by rw [F.2.2.2.1]; exact Nat.le_refl _) fun kb wb Q hk hw hQ => ?_
    have hk0 : sK σ ≤ kb := by rw [← F.2.2.1]; exact hk
    have hw0 : sW σ ≤ wb := by rw [← F.2.2.2.1]; exact hw
    refine B_Y10_snapshot_0 ⟨_, q2, _, rfl, _, q4.1, _, _, hC, hk0, hw0, fun _ => ⟨_, q2, _, rfl, _, q4.1, _, σ1, m1, by rw [F1.2.2.1]; exact hk0, by rw [F1.2.2.2.1]; exact hw0, _, a1.trans q2, _, rfl, _, a1.trans q2, Nat.le_of_ble_eq_true rfl, by rw [F1.1]; exact hb, fun σ3 e3 => ?_⟩, fun c => absurd (by decide) c⟩
    subst e3
    exact hQ
  refine mx_retEH (by decide) (List.cons_ne_nil _ _) (Nat.le_of_ble_eq_true rfl) F.1 (by rw [F.2.2.1]; exact Nat.le_refl _) (by rw [F.2.2.2.1]; exact Nat.le_refl _) fun kb wb Q hk hw hQ => ?_
  exact B_YL_snapshot_0 ⟨_, q2, Or.inl ⟨_, _, inner, hk, hw, hQ⟩⟩
theorem dOK_ins {d : List Int} {D : mt_D} {w : List Int} (h : dOK (d :: D)) (hl : letW w) (h12 : w.length + d.length ≤ 12) : dOK ((w ++ d) :: D) := by
  obtain ⟨g1, g2, g3, g4⟩ := h
  refine ⟨fun k x hx => ?_, fun k hk => ?_, g3, fun k => ?_⟩
  · match k, hx with
    | 0, hx =>
      rcases List.mem_append.mp (show x ∈ w ++ d from hx) with q | q
      · exact hl x q
      · exact g1 0 x q
    | k + 1, hx => exact g1 (k + 1) x hx
  · match k, hk with
    | 0, hk =>
      have := g2 0 hk
      show 0 < (w ++ d).length
      rw [List.length_append]
      have : 0 < d.length := this
      omega
    | k + 1, hk => exact g2 (k + 1) hk
  · match k with
    | 0 =>
      show (w ++ d).length ≤ 12
      rw [List.length_append]
      exact h12
    | k + 1 => exact g4 (k + 1)
theorem S_ins {σ : mx_S} {o : Nat} {w : List Int} {d : List Int} {D : mt_D} {E : Option mt_D} (h : hS σ o w (d :: D) E false) (hb : sB σ ≤ o) (hn : 0 < w.length) (h12 : w.length + d.length ≤ 12) : ∃ σ' : mx_S, hS σ' o [] ((w ++ d) :: D) E true ∧ fx o σ σ' ∧ mx_MSN YL_insert [mR o, mI 0, mI 0] σ (some (mI ((d.length + w.length : Nat) : Int))) σ' := by
  obtain ⟨R, A, hO, okr, hw, hl, hh⟩ := h
  obtain ⟨g1, g2, g3, g4, g5, g6, g7, g8, g9⟩ := hh
  have gA := g4 rfl
  have e1 := hw.1
  obtain ⟨σ1, A1, k1, k2, k3, k4, k5, k6, F1, m1⟩ := c2_widen hO.2.2 (by omega) hO.2.1 okr hw (by omega) g1 gA (by omega)
  have r1 : isR σ1 (o + 1) R := hO.2.1.kp (fun q q1 q2 => F1.at (by omega))
  obtain ⟨σ2, r2, F2, m2⟩ := c6_empty r1 (by rw [F1.1]; omega)
  have hP := c10_plain hO okr hw hl hn
  have hsl := c10_nSlot hO.2.2.2.1.2.1 g1.1 g1.2.1 (k := 0) (by simp)
  have es := rep_size g1.2.1 0
  obtain ⟨⟨x2, x3, x4, x5, x6, c, q0, q1, q2⟩, q3, q4⟩ := hO
  have a2 : sH σ2 o = sH σ o := (F2.at (by omega)).trans (F1.at (by omega))
  obtain ⟨σ3, e3⟩ : ∃ s, s = mx_wr σ2 o (.inl (10, [mR (o + 1), mR (o + 3), mR x2, mR x3, mR x4, mR x5, mR x6, mI (mx_w (c + 1))])) := ⟨_, rfl⟩
  have F3 : fr o (o + 85) σ2 σ3 := by rw [e3]; exact fr.wr (by omega) (by omega)
  have h3 : isH σ3 (o + 3) A1 := k1.kp (fun q q1 q2 => by rw [e3]; exact (wr_ne (by omega)).trans (F2.at (by omega)))
  have F : fr o (o + 85) σ σ3 := ((F1.mono (lo' := o) (hi' := o + 85) (by omega) (by omega)).tr (F2.mono (by omega) (by omega))).tr F3
  refine ⟨σ3, ⟨(0, R.2), A1, ⟨⟨x2, x3, x4, x5, x6, _, trivial, trivial, by rw [e3]; exact wr_at⟩, r2.kp (fun q q1 q2 => by rw [e3]; exact wr_ne (by omega)), h3⟩, ⟨Nat.zero_le _, okr.2⟩, ⟨rfl, fun i hi => absurd hi (Nat.not_lt_zero _)⟩, (fun x hx => by cases hx), ⟨k2, dOK_ins g2 hl h12, ⟨g3.1, Or.inr k5⟩, (fun c => by cases c), ?_, by rw [k3]; exact g6, by rw [k4]; exact g7, by rw [k4, k6]; exact g8, by rw [k3, k4]; exact g9⟩⟩, fx_of F, mx_MSN_of ?_⟩
  · rw [k6]
    exact g5
  have es3 : tSize A1.1.1 (0 : Int) = ((d.length + w.length : Nat) : Int) := by
    have := rep_size k2.2.1 0
    rw [show ((0 : Nat) : Int) = 0 from rfl] at this
    rw [this]
    show ((w ++ d).length : Int) = _
    rw [List.length_append, Nat.add_comm]
  have inner : mx_MS Y10_insert [mR o, mI 0, mI 0] σ (.inl (some (mI ((d.length + w.length : Nat) : Int)), σ3)) := by
    refine mx_retE (by decide) rfl (Nat.le_of_ble_eq_true rfl) F.1 (by rw [F.2.2.1]; exact Nat.le_refl _) (by rw [F.2.2.2.1]; exact Nat.le_refl _) fun kb wb Q hk hw hQ => ?_
    have hk0 : sK σ ≤ kb := by rw [← F.2.2.1]; exact hk
    have hw0 : sW σ ≤ wb := by rw [← F.2.2.2.1]; exact hw
    have hk1 : sK σ1 ≤ kb := by rw [F1.2.2.1]; exact hk0
    have hw1 : sW σ1 ≤ wb := by rw [F1.2.2.2.1]; exact hw0
    have ed : lenD (d :: D) 0 = d.length := rfl
    refine B_Y10_insert_0 ⟨_, q2, _, rfl, _, q4.1, _, _, c2_present q4, hk0, hw0, _, q4.2.1.1, _, _, c9_texts q4.2.1, hk0, hw0, Or.inl ⟨_, _, hsl, hk0, hw0, _, q2, Or.inl ⟨_, hP, hk0, hw0, _, q4.2.1.2.1.1, _, _, c8_sizeAt q4.2.1.2.1 _, hk0, hw0, fun c => absurd c (by decide), fun _ => ⟨fun c => absurd c ?_, fun _ => ⟨_, q2, _, rfl, _, q3.1, _, _, c6_size q3, hk0, hw0, fun _ => ⟨_, q2, _, rfl, _, q2, _, rfl, _, q4.1, σ1, m1, hk1, hw1, _, (F1.at (by omega)).trans q2, _, rfl, _, r1.1, σ2, m2, by rw [F2.2.2.1]; exact hk1, by rw [F2.2.2.2.1]; exact hw1, _, a2.trans q2, _, rfl, _, a2.trans q2, Nat.le_of_ble_eq_true rfl, by rw [F2.1, F1.1]; exact hb, fun σ4 e4 => ?_⟩, fun c => absurd ?_ c⟩⟩⟩⟩⟩
    · rw [es]
      omega
    · have e4 := e4.trans e3.symm
      subst e4
      have hQ2 := hQ
      rw [← es3] at hQ2
      exact ⟨_, h3.2.1.2.1.1, _, _, c8_sizeAt h3.2.1.2.1 _, hk, hw, hQ2⟩
    · rw [es, ed, mx_w_id (by omega) (by omega)]
      omega
  refine mx_retEH (by decide) (List.cons_ne_nil _ _) (Nat.le_of_ble_eq_true rfl) F.1 (by rw [F.2.2.1]; exact Nat.le_refl _) (by rw [F.2.2.2.1]; exact Nat.le_refl _) fun kb wb Q hk hw hQ => ?_
  exact B_YL_insert_0 ⟨_, q2, Or.inl ⟨_, _, inner, hk, hw, hQ⟩⟩
/-- whether a suffix counts below (or at) the last n letters of a row -/
def ivB (D : mt_D) (w : List Int) (fm : Nat) (e : Int) (y : Nat × Nat) : Bool := decide (crL (suf D y) (w.drop fm) < 0 ∨ (crL (suf D y) (w.drop fm) = 0 ∧ e ≠ 0))
theorem bdO_ct {T : mt_T} {D : mt_D} {R : mt_R} {w : List Int} (hr : rep T D) (hw : repR R w) (okr : okR R) (hp : posL w) (fm : Nat) (hf : fm ≤ R.1) (e : Int) : ∀ s : Nat, bdO T R fm e s = ctD D (ivB D w fm e) s
  | 0 => rfl
  | s + 1 => by
    simp only [bdO, ctD]
    rw [bdO_ct hr hw okr hp fm hf e s, rep_size hr, Int.toNat_natCast]
    congr 1
    refine cn_cong fun p hp9 => ?_
    have q := crF_crL hr hw okr hp s p fm (R.1 - fm) 0 (by omega)
    rw [Nat.add_zero, List.drop_zero] at q
    unfold bdB ivB
    rw [q]
theorem S_int {σ : mx_S} {o : Nat} {w : List Int} {D : mt_D} {E : Option mt_D} {b : Bool} {x : Int} {D1 : mt_D} (h : hS σ o w D E b) (hv : vS D E x D1) (hn : 0 < w.length) {st : Nat} (hst : st ≤ w.length) (e : Int) : mx_MSN YL_interval [mR o, mI x, mI (st : Int), mI e] σ (some (mI (ctD D1 (ivB D1 w (w.length - st) e) D1.length))) σ := by
  obtain ⟨R, A, hO, okr, hw, hl, hh⟩ := h
  obtain ⟨a, V, hM, l1, l2, v, ⟨ok, hr, ho⟩, hd, put⟩ := lens hO hh hv
  have hN := c10_nView hO hM
  have hP := c10_plain hO okr hw hl hn
  have e1 := hw.1
  have h20 := okr.1
  obtain ⟨⟨x2, x3, x4, x5, x6, c, q0, q1, q2⟩, q3, q4⟩ := hO
  refine mx_MSN_of ?_
  have inner : mx_MS Y10_interval [mR o, mI x, mI (st : Int), mI e] σ (.inl (some (mI (ctD D1 (ivB D1 w (w.length - st) e) D1.length)), σ)) := by
    refine mx_pure (by decide) rfl (Nat.le_of_ble_eq_true rfl) fun kb wb Q hk hw9 hQ => ?_
    rw [← bdO_ct hr hw okr hl.pos (w.length - st) (by omega) e, ← hr.1] at hQ
    refine B_Y10_interval_0 ⟨_, q2, Or.inl ⟨_, _, hN, hk, hw9, _, q2, Or.inl ⟨_, hP, hk, hw9, fun c => absurd c (by omega), fun _ => ⟨_, q2, _, rfl, _, q3.1, _, _, c6_size q3, hk, hw9, fun _ => ⟨_, q2, _, rfl, _, q2, _, rfl, _, q3.1, _, _, c6_size q3, hk, hw9, _, v.1, ?_⟩, fun c => absurd (by omega) c⟩⟩⟩⟩
    rw [show mx_w ((R.1 : Int) - st) = ((w.length - st : Nat) : Int) by rw [mx_w_id (by omega) (by omega)]; omega]
    exact ⟨_, _, c9_boundOf v ok q3 okr (by omega) e, hk, hw9, hQ⟩
  refine mx_retEH (by decide) (List.cons_ne_nil _ _) (Nat.le_of_ble_eq_true rfl) rfl (Nat.le_refl _) (Nat.le_refl _) fun kb wb Q hk hw hQ => ?_
  exact B_YL_interval_0 ⟨_, q2, Or.inl ⟨_, _, inner, hk, hw, hQ⟩⟩
theorem S_intX {σ : mx_S} {o : Nat} {w : List Int} {D : mt_D} {E : Option mt_D} {b : Bool} {x : Int} {D1 : mt_D} (h : hS σ o w D E b) (hv : vS D E x D1) (hn : 0 < w.length) {st : Nat} (hst : w.length < st) (e : Int) : hS (mx_ex σ) o w D E b ∧ fx o σ (mx_ex σ) ∧ mx_MSN YL_interval [mR o, mI x, mI (st : Int), mI e] σ (some (mI (-900003))) (mx_ex σ) := by
  refine ⟨h.kp (fun _ _ _ => rfl), fx_ofX fr.rf, ?_⟩
  obtain ⟨R, A, hO, okr, hw, hl, hh⟩ := h
  obtain ⟨a, V, hM, l1, l2, v, ⟨ok, hr, ho⟩, hd, put⟩ := lens hO hh hv
  have hN := c10_nView hO hM
  have hP := c10_plain hO okr hw hl hn
  have e1 := hw.1
  obtain ⟨⟨x2, x3, x4, x5, x6, c, q0, q1, q2⟩, q3, q4⟩ := hO
  have inner : mx_MS Y10_interval [mR o, mI x, mI (st : Int), mI e] σ (.inr ("java/lang/IllegalArgumentException", mx_ex σ)) := by
    refine mx_thrE (by decide) rfl (Nat.le_of_ble_eq_true rfl) rfl (Nat.le_add_right _ _) (Nat.le_add_right _ _) fun kb wb Q hk hw9 hQ => ?_
    have hk0 : sK σ ≤ kb := Nat.le_trans (Nat.le_add_right _ _) hk
    have hw0 : sW σ ≤ wb := Nat.le_trans (Nat.le_add_right _ _) hw9
    exact B_Y10_interval_0 ⟨_, q2, Or.inl ⟨_, _, hN, hk0, hw0, _, q2, Or.inl ⟨_, hP, hk0, hw0, fun c => absurd c (by omega), fun _ => ⟨_, q2, _, rfl, _, q3.1, _, _, c6_size q3, hk0, hw0, fun c => absurd c (by omega), fun _ => B_Y10_interval_26 ⟨hk, hw9, hQ⟩⟩⟩⟩⟩
  refine mx_retEN (by decide) (List.cons_ne_nil _ _) (Nat.le_of_ble_eq_true rfl) rfl (Nat.le_add_right _ _) (Nat.le_add_right _ _) fun kb wb Q hk hw hQ => ?_
  exact B_YL_interval_0 ⟨_, q2, Or.inr (Or.inr (Or.inr ⟨_, inner, hk, hw, fun n q6 s7 hn e => by subst e; exact hQ n hn⟩))⟩
