/-! The object as the law sees it: documents as lists. -/
def dOK (D : mt_D) : Prop := letD D ∧ (∀ k, k < D.length → 0 < lenD D k) ∧ D.length ≤ 3 ∧ ∀ k, lenD D k ≤ 12
/-- a hall with documents D in the present, E in the first snapshot (if any); b: a document was changed since it was added -/
def hA (A : mt_H) (D : mt_D) (E : Option mt_D) (b : Bool) : Prop := vOK A.1 D ∧ dOK D ∧ sgK A.2.2.2.1 D.length ∧ (b = false → sgA A.2.2.2.1 D.length) ∧ A.2.2.2.2.1 = D.length ∧ okT A.2.1.1 ∧ (∀ i : Nat, 0 < i → i < 6 → A.2.2.1 i = -1) ∧ (E = none → A.2.2.1 0 = -1 ∧ A.2.2.2.2.2 = 0) ∧ ∀ D1, E = some D1 → A.2.2.1 0 = 0 ∧ vOK A.2.1 D1 ∧ dOK D1
def letW (w : List Int) : Prop := ∀ x ∈ w, 97 ≤ x ∧ x ≤ 101
theorem letW.pos {w : List Int} (h : letW w) : posL w := fun x hx => by have := h x hx; omega
theorem letW.at {w : List Int} (h : letW w) {i : Nat} (hi : i < w.length) : 97 ≤ w.getD i 0 ∧ w.getD i 0 ≤ 101 := by
  rw [List.getD_eq_getElem?_getD, List.getElem?_eq_getElem hi]
  exact h _ (List.getElem_mem hi)
/-- ... with the letters w in the row -/
def hS (σ : mx_S) (o : Nat) (w : List Int) (D : mt_D) (E : Option mt_D) (b : Bool) : Prop := ∃ (R : mt_R) (A : mt_H), isO σ o R A ∧ okR R ∧ repR R w ∧ letW w ∧ hA A D E b
theorem hS.kp {σ σ' : mx_S} {o : Nat} {w : List Int} {D : mt_D} {E : Option mt_D} {b : Bool} (h : hS σ o w D E b) (k : ∀ q : Nat, o ≤ q → q < o + 85 → sH σ' q = sH σ q) : hS σ' o w D E b := by
  obtain ⟨R, A, h1, h2⟩ := h
  exact ⟨R, A, h1.kp k, h2⟩
theorem repR_pl {R : mt_R} {w : List Int} (h : repR R w) (l : letW w) : plR R := fun j hj => by
  rw [h.2 j (by have := h.1; omega)]
  exact l.at (by have := h.1; omega)
/-- the view x has the documents D1 -/
def vS (D : mt_D) (E : Option mt_D) (x : Int) (D1 : mt_D) : Prop := (x = -1 ∧ D1 = D) ∨ (x = 0 ∧ E = some D1)
theorem lens {σ : mx_S} {o : Nat} {R : mt_R} {A : mt_H} {D : mt_D} {E : Option mt_D} {b : Bool} {x : Int} {D1 : mt_D} (hO : isO σ o R A) (hh : hA A D E b) (hv : vS D E x D1) : ∃ (a : Nat) (V : mt_V), mx_MS Y2_viewOf [mR (o + 3), mI x] σ (.inl (some (mR a), σ)) ∧ o + 3 < a ∧ a + 8 ≤ o + 85 ∧ isV σ a V ∧ vOK V D1 ∧ dOK D1 ∧ ∀ (σ' : mx_S) (V' : mt_V), isV σ' a V' → vOK V' D1 → fr a (a + 8) σ σ' → ∃ A' : mt_H, isO σ' o R A' ∧ hA A' D E b := by
  obtain ⟨⟨x2, x3, x4, x5, x6, c, q0, q1, q2⟩, q3, q4⟩ := hO
  obtain ⟨g1, g2, g3, g4, g5, g6, g7, g8, g9⟩ := hh
  obtain ⟨w0, w1, w2, ⟨f, w3, w3'⟩, w4, w5⟩ := id q4
  rcases hv with ⟨rfl, rfl⟩ | ⟨rfl, hE⟩
  · refine ⟨o + 3 + 1, A.1, c2_viewP q4, by omega, by omega, w1, g1, g2, fun σ' V' v' k' F => ⟨(V', A.2), ⟨⟨x2, x3, x4, x5, x6, c, q0, q1, (F.at (by omega)).trans q2⟩, q3.kp (fun q q1 q2 => F.at (by omega)), ⟨(F.at (by omega)).trans w0, v', w2.kp (fun q q1 q2 => F.at (by omega)), ⟨f, (F.at (by omega)).trans w3, w3'⟩, (F.at (by omega)).trans w4, w5.kp (fun q q1 q2 => F.at (by omega))⟩⟩, k', g2, g3, g4, g5, g6, g7, g8, g9⟩⟩
  · obtain ⟨h1, h2, h3⟩ := g9 D1 hE
    refine ⟨o + 3 + 34, A.2.1, c2_viewS q4 h1, by omega, by omega, w2, h2, h3, fun σ' V' v' k' F => ⟨(A.1, V', A.2.2), ⟨⟨x2, x3, x4, x5, x6, c, q0, q1, (F.at (by omega)).trans q2⟩, q3.kp (fun q q1 q2 => F.at (by omega)), ⟨(F.at (by omega)).trans w0, w1.kp (fun q q1 q2 => F.at (by omega)), v', ⟨f, (F.at (by omega)).trans w3, w3'⟩, (F.at (by omega)).trans w4, w5.kp (fun q q1 q2 => F.at (by omega))⟩⟩, g1, g2, g3, g4, g5, k'.1, g7, g8, fun D2 hD2 => ?_⟩⟩
    rw [hE] at hD2
    cases hD2
    exact ⟨h1, k', h3⟩
theorem c10_nView {σ : mx_S} {o : Nat} {R : mt_R} {A : mt_H} {x : Int} {a : Nat} (hO : isO σ o R A) (hM : mx_MS Y2_viewOf [mR (o + 3), mI x] σ (.inl (some (mR a), σ))) : mx_MS Y10_neededView [mR o, mI x] σ (.inl (some (mR a), σ)) := by
  obtain ⟨⟨x2, x3, x4, x5, x6, c, q0, q1, q2⟩, q3, q4⟩ := hO
  refine mx_pure (by decide) rfl (Nat.le_of_ble_eq_true rfl) fun kb wb Q hk hw hQ => ?_
  exact B_Y10_neededView_0 ⟨_, q2, _, rfl, _, q4.1, some a, _, hM, hk, hw, fun c => (by cases c), fun a6 e => by cases e; exact hQ⟩
theorem c10_nViewN {σ : mx_S} {o : Nat} {R : mt_R} {A : mt_H} {x : Int} (hO : isO σ o R A) (hM : mx_MS Y2_viewOf [mR (o + 3), mI x] σ (.inl (some mN, σ))) : mx_MS Y10_neededView [mR o, mI x] σ (.inr ("java/lang/IndexOutOfBoundsException", mx_ex σ)) := by
  obtain ⟨⟨x2, x3, x4, x5, x6, c, q0, q1, q2⟩, q3, q4⟩ := hO
  refine mx_thrE (by decide) rfl (Nat.le_of_ble_eq_true rfl) rfl (Nat.le_add_right _ _) (Nat.le_add_right _ _) fun kb wb Q hk hw hQ => ?_
  have hk : sK σ + 1 ≤ kb := hk
  have hw : sW σ + 6 ≤ wb := hw
  exact B_Y10_neededView_0 ⟨_, q2, _, rfl, _, q4.1, none, _, hM, by omega, by omega, fun _ => ⟨hk, hw, hQ⟩, fun a6 e => (by cases e)⟩
/-- the view x, put in order -/
theorem S_ord {σ : mx_S} {o : Nat} {w : List Int} {D : mt_D} {E : Option mt_D} {b : Bool} {x : Int} {D1 : mt_D} (h : hS σ o w D E b) (hb : sB σ ≤ o) (hv : vS D E x D1) : ∃ (σ' : mx_S) (a : Nat) (V : mt_V), hS σ' o w D E b ∧ fr o (o + 85) σ σ' ∧ isV σ' a V ∧ okT V.1 ∧ rep V.1 D1 ∧ ordV V D1 ∧ dOK D1 ∧ (∃ fs, sH σ o = some (.inl (10, fs))) ∧ mx_MS Y10_orderedView [mR o, mI x] σ (.inl (some (mR a), σ')) := by
  obtain ⟨R, A, hO, okr, hw, hl, hh⟩ := h
  obtain ⟨a, V, hM, l1, l2, v, ⟨ok, hr, ho⟩, hd, put⟩ := lens hO hh hv
  obtain ⟨σ', V', v', e, o', F, m⟩ := c9_order v (by omega) ok hr hd.1.pos ho
  rw [← e] at ok hr
  obtain ⟨A', hO', hh'⟩ := put σ' V' v' ⟨ok, hr, Or.inr o'⟩ F
  have FF : fr o (o + 85) σ σ' := F.mono (by omega) (by omega)
  have hN := c10_nView hO hM
  obtain ⟨⟨x2, x3, x4, x5, x6, c, q0, q1, q2⟩, q3, q4⟩ := hO
  refine ⟨σ', a, V', ⟨R, A', hO', okr, hw, hl, hh'⟩, FF, v', ok, hr, o', hd, ⟨_, q2⟩, ?_⟩
  refine mx_retE (by decide) rfl (Nat.le_of_ble_eq_true rfl) FF.1 (by rw [FF.2.2.1]; exact Nat.le_refl _) (by rw [FF.2.2.2.1]; exact Nat.le_refl _) fun kb wb Q hk hw hQ => ?_
  have hk0 : sK σ ≤ kb := by rw [← FF.2.2.1]; exact hk
  have hw0 : sW σ ≤ wb := by rw [← FF.2.2.2.1]; exact hw
  exact B_Y10_orderedView_0 ⟨_, q2, Or.inl ⟨_, _, hN, hk0, hw0, _, v.1, σ', m, hk, hw, hQ⟩⟩
/-- a rank of the view -/
theorem c10_needRank {σ : mx_S} {a : Nat} {V : mt_V} {D1 : mt_D} (v : isV σ a V) (ok : okT V.1) (hr : rep V.1 D1) {i : Nat} (hi : i < totD D1 D1.length) : mx_MS Y10_needRank [mR a, mI (i : Int)] σ (.inl (none, σ)) := by
  refine mx_pure (by decide) rfl (Nat.le_of_ble_eq_true rfl) fun kb wb Q hk hw hQ => ?_
  refine B_Y10_needRank_0 ⟨fun c => absurd c (by omega), fun _ => ⟨_, v.1, _, _, c9_texts v, hk, hw, _, v.2.1.1, _, _, c8_places v.2.1 ok, hk, hw, fun _ => hQ, fun c => absurd ?_ c⟩⟩
  rw [hr.1, tPl_tot hr]
  omega
theorem c10_needRankX {σ : mx_S} {a : Nat} {V : mt_V} {D1 : mt_D} (v : isV σ a V) (ok : okT V.1) (hr : rep V.1 D1) {i : Nat} (hi : totD D1 D1.length ≤ i) : mx_MS Y10_needRank [mR a, mI (i : Int)] σ (.inr ("java/util/NoSuchElementException", mx_ex σ)) := by
  refine mx_thrE (by decide) rfl (Nat.le_of_ble_eq_true rfl) rfl (Nat.le_add_right _ _) (Nat.le_add_right _ _) fun kb wb Q hk hw hQ => ?_
  have hk : sK σ + 1 ≤ kb := hk
  have hw : sW σ + 6 ≤ wb := hw
  refine B_Y10_needRank_0 ⟨fun c => absurd c (by omega), fun _ => ⟨_, v.1, _, _, c9_texts v, by omega, by omega, _, v.2.1.1, _, _, c8_places v.2.1 ok, by omega, by omega, fun c => absurd c ?_, fun _ => B_Y10_needRank_15 ⟨hk, hw, hQ⟩⟩⟩
  rw [hr.1, tPl_tot hr]
  omega
theorem c10_nSlot {σ : mx_S} {t : Nat} {T : mt_T} {D1 : mt_D} (h : isT σ t T) (ok : okT T) (hr : rep T D1) {k : Nat} (hk : k < D1.length) : mx_MS Y10_neededSlot [mR t, mI (k : Int)] σ (.inl (some (mI (k : Int)), σ)) := by
  have h1 := hr.1
  have hs := c8_slotOf h ok (fun j hj => (hr.2.2 j (by omega)).1) (k : Int)
  rw [if_pos (by omega)] at hs
  refine mx_pure (by decide) rfl (Nat.le_of_ble_eq_true rfl) fun kb wb Q hk hw hQ => ?_
  exact B_Y10_neededSlot_0 ⟨_, h.1, _, _, hs, hk, hw, fun _ => hQ, fun c => absurd (by omega) c⟩
/-- the header of the object -/
theorem hS.hd {σ : mx_S} {o : Nat} {w : List Int} {D : mt_D} {E : Option mt_D} {b : Bool} (h : hS σ o w D E b) : ∃ fs, sH σ o = some (.inl (10, fs)) := by
  obtain ⟨R, A, ⟨⟨x2, x3, x4, x5, x6, c, q0, q1, q2⟩, q3, q4⟩, -⟩ := h
  exact ⟨_, q2⟩
