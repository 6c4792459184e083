/-! Rows: what changes them; signs. -/
theorem up_I (f : Nat → Int) (k : Int) (x : Int) : upV (fun j => mI (f j)) k.toNat (mI x) = fun j => mI (if j = k.toNat then x else f j) := upV_I f _ x
theorem c6_append {σ : mx_S} {r : Nat} {R : mt_R} (h : isR σ r R) (hb : sB σ ≤ r) (h20 : R.1 < 20) {x : Int} (hx : 0 ≤ x ∧ x ≤ 65535) : ∃ σ' : mx_S, isR σ' r (R.1 + 1, fun j => if j = R.1 then x else R.2 j) ∧ fr r (r + 2) σ σ' ∧ mx_MS Y6_append [mR r, mI x] σ (.inl (none, σ')) := by
  obtain ⟨h0, h1⟩ := h
  refine ⟨mx_wr (mx_wr σ (r + 1) (.inr (1, 20, fun j => mI (if j = R.1 then x else R.2 j)))) r (.inl (6, [mR (r + 1), mI ((R.1 + 1 : Nat) : Int)])), ⟨wr_at, (wr_ne (by omega)).trans wr_at⟩, (fr.wr (by omega) (by omega)).tr (fr.wr (by omega) (by omega)), ?_⟩
  refine mx_retE (by decide) rfl (Nat.le_of_ble_eq_true rfl) rfl (Nat.le_refl _) (Nat.le_refl _) fun kb wb Q hk hw hQ => ?_
  refine B_Y6_append_0 ⟨_, h0, _, rfl, fun c1 => absurd c1 (by omega), fun c1 => ⟨_, h0, _, rfl, _, h0, _, rfl, _, _, _, h1, fun c2 => absurd c2 (by omega), fun c2 => ⟨_, h0, _, rfl, _, h0, _, rfl, _, _, h1, by omega, by omega, by omega, hx.1, hx.2, fun σ1 e1 => ?_⟩⟩⟩
  rw [up_I, Int.toNat_natCast] at e1
  subst e1
  refine ⟨_, (wr_ne (by omega)).trans h0, _, rfl, _, (wr_ne (by omega)).trans h0, Nat.le_of_ble_eq_true rfl, hb, fun σ2 e2 => ?_⟩
  rw [mx_w_id (x := (R.1 : Int) + 1) (by omega) (by omega)] at e2
  subst e2
  exact hQ
theorem c6_empty {σ : mx_S} {r : Nat} {R : mt_R} (h : isR σ r R) (hb : sB σ ≤ r) : ∃ σ' : mx_S, isR σ' r (0, R.2) ∧ fr r (r + 2) σ σ' ∧ mx_MS Y6_empty [mR r] σ (.inl (none, σ')) := by
  obtain ⟨h0, h1⟩ := h
  refine ⟨mx_wr σ r (.inl (6, [mR (r + 1), mI 0])), ⟨wr_at, (wr_ne (by omega)).trans h1⟩, fr.wr (by omega) (by omega), ?_⟩
  refine mx_retE (by decide) rfl (Nat.le_of_ble_eq_true rfl) rfl (Nat.le_refl _) (Nat.le_refl _) fun kb wb Q hk hw hQ => ?_
  refine B_Y6_empty_0 ⟨_, h0, Nat.le_of_ble_eq_true rfl, hb, fun σ1 e1 => ?_⟩
  subst e1
  exact hQ
theorem c10_isLetter {σ : mx_S} (x : Int) : mx_MS Y10_isLetter [mI x] σ (.inl (some (mI (if 97 ≤ x ∧ x ≤ 101 then 1 else 0)), σ)) := by
  refine mx_pureI (by decide) rfl (Nat.le_of_ble_eq_true rfl) fun kb wb Q hk hw hQ => ?_
  refine B_Y10_isLetter_0 ⟨fun c1 => hQ _ ?_, fun c1 => ⟨fun c2 => hQ _ ?_, fun c2 => hQ _ ?_⟩⟩
  all_goals (split <;> omega)
/-- all signs are letters -/
def plR (R : mt_R) : Prop := ∀ j : Nat, j < R.1 → 97 ≤ R.2 j ∧ R.2 j ≤ 101
theorem plR_sign {R : mt_R} (okr : okR R) (pl : plR R) {k : Nat} (h : k < R.1) : rSign R k = R.2 k ∧ 97 ≤ R.2 k ∧ R.2 k ≤ 101 := by
  have := okr.1
  refine ⟨?_, pl k h⟩
  unfold rSign
  rw [if_neg (by omega), if_neg (by omega), if_neg (by omega), Int.toNat_natCast]
theorem j6_isPlain {σ : mx_S} {r : Nat} {R : mt_R} (h : isR σ r R) (okr : okR R) (pl : plR R) {kb wb : Nat} {Q : mx_R → Prop} (hk : sK σ ≤ kb) (hw : sW σ ≤ wb) (hQ : ∀ y : Int, y = (if 0 < R.1 then 1 else 0) → Q (.inl (some (mI y), σ))) : ∀ (n k : Nat), k + n = R.1 → mx_J Y6_isPlain kb wb 2 [some (mR r), some (mI (k : Int))] [] σ Q
  | 0, k, e => by
    refine B_Y6_isPlain_2 ⟨_, h.1, _, rfl, fun c1 => ⟨_, h.1, _, rfl, fun c2 => hQ _ ?_, fun c2 => hQ _ ?_⟩, fun c1 => absurd c1 (by omega)⟩
    all_goals (split <;> omega)
  | n + 1, k, e => by
    have h9 := okr.1
    obtain ⟨e1, e2, e3⟩ := plR_sign okr pl (k := k) (by omega)
    refine B_Y6_isPlain_2 ⟨_, h.1, _, rfl, fun c1 => absurd c1 (by omega), fun c1 => ⟨_, h.1, _, _, c6_sign h okr _, hk, hw, _, _, c10_isLetter _, hk, hw, fun c2 => ?_, fun c2 => absurd c2 ?_⟩⟩
    · rw [mx_w_id (x := (k : Int) + 1) (by omega) (by omega)]
      exact j6_isPlain h okr pl hk hw hQ n (k + 1) (by omega)
    · rw [if_pos (by omega)]
      decide
theorem c6_isPlain {σ : mx_S} {r : Nat} {R : mt_R} (h : isR σ r R) (okr : okR R) (pl : plR R) : mx_MS Y6_isPlain [mR r] σ (.inl (some (mI (if 0 < R.1 then 1 else 0)), σ)) := by
  refine mx_pureI (by decide) rfl (Nat.le_of_ble_eq_true rfl) fun kb wb Q hk hw hQ => ?_
  exact B_Y6_isPlain_0 (j6_isPlain h okr pl hk hw hQ R.1 0 (by omega))
theorem j6_isSimple {σ : mx_S} {r : Nat} {R : mt_R} (h : isR σ r R) (okr : okR R) (pl : plR R) {kb wb : Nat} {Q : mx_R → Prop} (hk : sK σ ≤ kb) (hw : sW σ ≤ wb) (hQ : ∀ y : Int, y = (if 0 < R.1 then 1 else 0) → Q (.inl (some (mI y), σ))) : ∀ (n k : Nat) (b : Int), k + n = R.1 → b = (if 0 < k then 1 else 0) → mx_J Y6_isSimple kb wb 4 [some (mR r), some (mI b), some (mI (k : Int)), none, none] [] σ Q
  | 0, k, b, e, hb => by
    refine B_Y6_isSimple_4 ⟨_, h.1, _, rfl, fun c1 => ⟨?_, ?_, hQ _ ?_⟩, fun c1 => absurd c1 (by omega)⟩
    · rw [hb]; split <;> decide
    · rw [hb]; split <;> decide
    · rw [hb, show k = R.1 by omega]
  | n + 1, k, b, e, hb => by
    have h9 := okr.1
    obtain ⟨e1, e2, e3⟩ := plR_sign okr pl (k := k) (by omega)
    refine B_Y6_isSimple_4 ⟨_, h.1, _, rfl, fun c1 => absurd c1 (by omega), fun c1 => ⟨_, h.1, _, _, c6_sign h okr _, hk, hw, _, _, c10_isLetter _, hk, hw, fun c2 => ?_, fun c2 => absurd (Decidable.not_not.mp c2) ?_⟩⟩
    · refine B_Y6_isSimple_31 (B_Y6_isSimple_36 ⟨fun _ => ?_, fun c => absurd (by decide) c⟩)
      have K : mx_J Y6_isSimple kb wb 65 [some (mR r), some (mI b), some (mI (k : Int)), some (mI (rSign R k)), some (mI 1)] [mI 1] σ Q := by
        refine B_Y6_isSimple_65 ?_
        rw [mx_w_id (x := (k : Int) + 1) (by omega) (by omega)]
        exact j6_isSimple h okr pl hk hw hQ n (k + 1) 1 (by omega) (by rw [if_pos (by omega)])
      refine B_Y6_isSimple_51 ⟨fun _ => B_Y6_isSimple_60 K, fun _ => ⟨fun c => absurd c (by decide), fun _ => B_Y6_isSimple_60 K⟩⟩
    · rw [if_pos (by omega)]
      decide
theorem c6_isSimple {σ : mx_S} {r : Nat} {R : mt_R} (h : isR σ r R) (okr : okR R) (pl : plR R) : mx_MS Y6_isSimple [mR r] σ (.inl (some (mI (if 0 < R.1 then 1 else 0)), σ)) := by
  refine mx_pureI (by decide) rfl (Nat.le_of_ble_eq_true rfl) fun kb wb Q hk hw hQ => ?_
  exact B_Y6_isSimple_0 (j6_isSimple h okr pl hk hw hQ R.1 0 0 (by omega) rfl)
theorem c10_isSign {σ : mx_S} {x : Int} (hx : 97 ≤ x ∧ x ≤ 102) : mx_MS Y10_isSign [mI x] σ (.inl (some (mI (if x ≤ 101 then 1 else 0)), σ)) := by
  refine mx_pureI (by decide) rfl (Nat.le_of_ble_eq_true rfl) fun kb wb Q hk hw hQ => ?_
  refine B_Y10_isSign_0 ⟨_, _, c10_isLetter _, hk, hw, fun c1 => B_Y10_isSign_43 (hQ _ ?_), fun c1 => ⟨fun c => absurd c (by omega), fun _ => ⟨fun c => absurd c (by omega), fun _ => ⟨fun c => absurd c (by omega), fun _ => ⟨fun c => absurd c (by omega), fun _ => ⟨fun c => absurd c (by omega), fun _ => ⟨fun _ => hQ _ ?_, fun c => absurd c (by omega)⟩⟩⟩⟩⟩⟩⟩
  · split at c1
    · rw [if_pos (by omega)]
    · exact absurd rfl c1
  · split at c1
    · exact absurd c1 (by decide)
    · rw [if_neg (by omega)]
