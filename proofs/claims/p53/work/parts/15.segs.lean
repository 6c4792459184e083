/-! Segments. -/
def gIs (S : mt_G) (i : Int) : Int := if i < 0 then 0 else if (S.1 : Int) ≤ i then 0 else if 512 ≤ i then 0 else 1
theorem gIs_0 {S : mt_G} {i : Int} : gIs S i = 0 ↔ ¬ (0 ≤ i ∧ i < (S.1 : Int) ∧ i < 512) := by
  unfold gIs
  (repeat' split) <;> omega
def gHome (S : mt_G) (d : Int) : Int := if d < 0 then -1 else if 40 ≤ d then -1 else S.2.2.2.2 d.toNat
def gLiv (S : mt_G) (i : Int) : Int := if i < 0 then 0 else if (S.1 : Int) ≤ i then 0 else if 512 ≤ i then 0 else S.2.1 i.toNat
theorem c7_isSegment {σ : mx_S} {g : Nat} {S : mt_G} (h : isG σ g S) (i : Int) : mx_MS Y7_isSegment [mR g, mI i] σ (.inl (some (mI (gIs S i)), σ)) := by
  refine mx_pureI (by decide) rfl (Nat.le_of_ble_eq_true rfl) fun kb wb Q hk hw hQ => ?_
  refine B_Y7_isSegment_0 ⟨fun c1 => hQ _ ?_, fun c1 => ⟨_, h.1, _, rfl, fun c2 => hQ _ ?_, fun c2 => ⟨fun c3 => hQ _ ?_, fun c3 => hQ _ ?_⟩⟩⟩
  all_goals (unfold gIs; (repeat' split) <;> omega)
theorem c7_homeOf {σ : mx_S} {g : Nat} {S : mt_G} (h : isG σ g S) (d : Int) : mx_MS Y7_homeOf [mR g, mI d] σ (.inl (some (mI (gHome S d)), σ)) := by
  refine mx_pureI (by decide) rfl (Nat.le_of_ble_eq_true rfl) fun kb wb Q hk hw hQ => ?_
  obtain ⟨h0, h1, h2, h3, h4⟩ := h
  refine B_Y7_homeOf_0 ⟨fun c1 => hQ _ ?_, fun c1 => ⟨_, h0, _, rfl, _, _, _, h4, fun c2 => hQ _ ?_, fun c2 => ⟨_, h0, _, rfl, _, _, h4, by omega, by omega, _, rfl, hQ _ ?_⟩⟩⟩
  all_goals (unfold gHome; (repeat' split) <;> omega)
theorem c7_livingAt {σ : mx_S} {g : Nat} {S : mt_G} (h : isG σ g S) (i : Int) : mx_MS Y7_livingAt [mR g, mI i] σ (.inl (some (mI (gLiv S i)), σ)) := by
  refine mx_pureI (by decide) rfl (Nat.le_of_ble_eq_true rfl) fun kb wb Q hk hw hQ => ?_
  refine B_Y7_livingAt_0 ⟨_, h.1, _, _, c7_isSegment h i, hk, hw, fun c1 => hQ _ ?_, fun c1 => ?_⟩
  · have := gIs_0.mp c1
    unfold gLiv
    (repeat' split) <;> omega
  · have := mt gIs_0.mpr c1
    exact ⟨_, h.1, _, rfl, _, _, h.2.1, by omega, by omega, _, rfl, hQ _ (by unfold gLiv; (repeat' split) <;> omega)⟩
theorem c7_setHome {σ : mx_S} {g : Nat} {S : mt_G} (h : isG σ g S) (hb : sB σ ≤ g) {d : Nat} (hd : d < 40) (x : Int) : ∃ σ' : mx_S, isG σ' g (S.1, S.2.1, S.2.2.1, S.2.2.2.1, fun j => if j = d then x else S.2.2.2.2 j) ∧ fr g (g + 5) σ σ' ∧ mx_MS Y7_setHome [mR g, mI (d : Int), mI x] σ (.inl (none, σ')) := by
  obtain ⟨h0, h1, h2, h3, h4⟩ := h
  refine ⟨mx_wr σ (g + 4) (.inr (0, 40, fun j => mI (if j = d then x else S.2.2.2.2 j))), ⟨(wr_ne (by omega)).trans h0, (wr_ne (by omega)).trans h1, (wr_ne (by omega)).trans h2, (wr_ne (by omega)).trans h3, wr_at⟩, fr.wr (by omega) (by omega), ?_⟩
  refine mx_retE (by decide) rfl (Nat.le_of_ble_eq_true rfl) rfl (Nat.le_refl _) (Nat.le_refl _) fun kb wb Q hk hw hQ => ?_
  refine B_Y7_setHome_0 ⟨fun c => absurd c (by omega), fun c1 => ⟨_, h0, _, rfl, _, _, _, h4, fun c => absurd c (by omega), fun c2 => ⟨_, h0, _, rfl, _, _, h4, by omega, by omega, by omega, fun σ1 e1 => ?_⟩⟩⟩
  rw [up_I, Int.toNat_natCast] at e1
  subst e1
  exact hQ
theorem c7_fill {σ : mx_S} {g : Nat} {S : mt_G} (h : isG σ g S) (hb : sB σ ≤ g) {i : Nat} (hi : i < S.1 ∧ i < 512) (x y z : Int) : ∃ σ' : mx_S, isG σ' g (S.1, fun j => if j = i then x else S.2.1 j, fun j => if j = i then y else S.2.2.1 j, fun j => if j = i then z else S.2.2.2.1 j, S.2.2.2.2) ∧ fr g (g + 5) σ σ' ∧ mx_MS Y7_fill [mR g, mI (i : Int), mI x, mI y, mI z] σ (.inl (none, σ')) := by
  have hs := c7_isSegment h i
  obtain ⟨h0, h1, h2, h3, h4⟩ := h
  refine ⟨mx_wr (mx_wr (mx_wr σ (g + 1) (.inr (0, 512, fun j => mI (if j = i then x else S.2.1 j)))) (g + 2) (.inr (0, 512, fun j => mI (if j = i then y else S.2.2.1 j)))) (g + 3) (.inr (0, 512, fun j => mI (if j = i then z else S.2.2.2.1 j))), ⟨?_, ?_, ?_, wr_at, ?_⟩, ((fr.wr (by omega) (by omega)).tr (fr.wr (by omega) (by omega))).tr (fr.wr (by omega) (by omega)), ?_⟩
  · exact (wr_ne (by omega)).trans ((wr_ne (by omega)).trans ((wr_ne (by omega)).trans h0))
  · exact (wr_ne (by omega)).trans ((wr_ne (by omega)).trans wr_at)
  · exact (wr_ne (by omega)).trans wr_at
  · exact (wr_ne (by omega)).trans ((wr_ne (by omega)).trans ((wr_ne (by omega)).trans h4))
  refine mx_retE (by decide) rfl (Nat.le_of_ble_eq_true rfl) rfl (Nat.le_refl _) (Nat.le_refl _) fun kb wb Q hk hw hQ => ?_
  refine B_Y7_fill_0 ⟨_, h0, _, _, hs, hk, hw, fun c => absurd (gIs_0.mp c) (by omega), fun c1 => ⟨_, h0, _, rfl, _, _, h1, by omega, by omega, by omega, fun σ1 e1 => ?_⟩⟩
  rw [up_I, Int.toNat_natCast] at e1
  subst e1
  refine ⟨_, (wr_ne (by omega)).trans h0, _, rfl, _, _, (wr_ne (by omega)).trans h2, by show sB σ ≤ _; omega, by omega, by omega, fun σ2 e2 => ?_⟩
  rw [up_I, Int.toNat_natCast] at e2
  subst e2
  refine ⟨_, (wr_ne (by omega)).trans ((wr_ne (by omega)).trans h0), _, rfl, _, _, (wr_ne (by omega)).trans ((wr_ne (by omega)).trans h3), by show sB σ ≤ _; omega, by omega, by omega, fun σ3 e3 => ?_⟩
  rw [up_I, Int.toNat_natCast] at e3
  subst e3
  exact hQ
/-- a document settles in a new segment -/
def gSet (S : mt_G) (d : Nat) : mt_G := (S.1 + 1, fun j => if j = S.1 then 1 else S.2.1 j, fun j => if j = S.1 then 0 else S.2.2.1 j, fun j => if j = S.1 then 0 else S.2.2.2.1 j, fun j => if j = d then (S.1 : Int) else S.2.2.2.2 j)
theorem c7_settle {σ : mx_S} {g : Nat} {S : mt_G} (h : isG σ g S) (hb : sB σ ≤ g) {d : Nat} (hd : d < 40) (hm : S.1 < 512) : ∃ σ' : mx_S, isG σ' g (gSet S d) ∧ fr g (g + 5) σ σ' ∧ mx_MS Y7_settle [mR g, mI (d : Int)] σ (.inl (none, σ')) := by
  obtain ⟨h0, h1, h2, h3, h4⟩ := id h
  have w1 : isG (mx_wr σ g (.inl (7, [mR (g + 1), mR (g + 2), mR (g + 3), mR (g + 4), mI ((S.1 + 1 : Nat) : Int)]))) g (S.1 + 1, S.2) :=
    ⟨wr_at, (wr_ne (by omega)).trans h1, (wr_ne (by omega)).trans h2, (wr_ne (by omega)).trans h3, (wr_ne (by omega)).trans h4⟩
  have f1 : fr g (g + 5) σ (mx_wr σ g (.inl (7, [mR (g + 1), mR (g + 2), mR (g + 3), mR (g + 4), mI ((S.1 + 1 : Nat) : Int)]))) := fr.wr (by omega) (by omega)
  generalize hσ1 : mx_wr σ g (.inl (7, [mR (g + 1), mR (g + 2), mR (g + 3), mR (g + 4), mI ((S.1 + 1 : Nat) : Int)])) = σ1 at w1 f1
  obtain ⟨σ2, w2, f2, m2⟩ := c7_fill w1 (by rw [f1.1]; exact hb) (i := S.1) ⟨by show S.1 < S.1 + 1; omega, hm⟩ 0 0 0
  have w3 : isG (mx_wr σ2 (g + 1) (.inr (0, 512, fun j => mI (if j = S.1 then 1 else S.2.1 j)))) g (S.1 + 1, fun j => if j = S.1 then 1 else S.2.1 j, fun j => if j = S.1 then 0 else S.2.2.1 j, fun j => if j = S.1 then 0 else S.2.2.2.1 j, S.2.2.2.2) :=
    ⟨(wr_ne (by omega)).trans w2.1, wr_at, (wr_ne (by omega)).trans w2.2.2.1, (wr_ne (by omega)).trans w2.2.2.2.1, (wr_ne (by omega)).trans w2.2.2.2.2⟩
  have f3 : fr g (g + 5) σ2 (mx_wr σ2 (g + 1) (.inr (0, 512, fun j => mI (if j = S.1 then 1 else S.2.1 j)))) := fr.wr (by omega) (by omega)
  generalize hσ3 : mx_wr σ2 (g + 1) (.inr (0, 512, fun j => mI (if j = S.1 then 1 else S.2.1 j))) = σ3 at w3 f3
  obtain ⟨σ4, w4, f4, m4⟩ := c7_setHome w3 (by rw [f3.1, f2.1, f1.1]; exact hb) hd (S.1 : Int)
  have F := ((f1.tr f2).tr f3).tr f4
  refine ⟨σ4, w4, F, ?_⟩
  refine mx_retE (by decide) rfl (Nat.le_of_ble_eq_true rfl) F.1 (by rw [F.2.2.1]; exact Nat.le_refl _) (by rw [F.2.2.2.1]; exact Nat.le_refl _) fun kb wb Q hk hw hQ => ?_
  have hk0 : sK σ ≤ kb := by rw [← F.2.2.1]; exact hk
  have hw0 : sW σ ≤ wb := by rw [← F.2.2.2.1]; exact hw
  refine B_Y7_settle_0 ⟨_, h0, _, rfl, fun c => absurd c (by omega), fun c1 => ⟨_, h0, _, rfl, _, h0, Nat.le_of_ble_eq_true rfl, hb, fun σa ea => ?_⟩⟩
  rw [mx_w_id (x := (S.1 : Int) + 1) (by omega) (by omega)] at ea
  have ea : σa = σ1 := ea.trans hσ1
  subst ea
  refine ⟨_, w1.1, _, rfl, _, w1.1, σ2, ?_, by rw [f2.2.2.1, f1.2.2.1]; exact hk0, by rw [f2.2.2.2.1, f1.2.2.2.1]; exact hw0, ?_⟩
  · rw [show mx_w (((S.1 + 1 : Nat) : Int) - 1) = (S.1 : Int) by rw [mx_w_id (by omega) (by omega)]; omega]
    exact m2
  have e2 : mx_w (((S.1 + 1 : Nat) : Int) - 1) = (S.1 : Int) := by rw [mx_w_id (by omega) (by omega)]; omega
  refine B_Y7_settle_33 ⟨_, w2.1, _, rfl, _, w2.1, ?_⟩
  rw [e2]
  refine ⟨_, _, c7_isSegment w2 _, by rw [f2.2.2.1, f1.2.2.1]; exact hk0, by rw [f2.2.2.2.1, f1.2.2.2.1]; exact hw0, fun c => absurd (gIs_0.mp c) (by show ¬ ¬ (0 ≤ (S.1 : Int) ∧ (S.1 : Int) < ((S.1 + 1 : Nat) : Int) ∧ (S.1 : Int) < 512); omega), fun c1 => ⟨_, w2.1, _, rfl, _, _, w2.2.1, by omega, by omega, _, rfl, _, _, w2.2.1, by rw [f2.1, f1.1]; omega, by omega, by omega, fun σb eb => ?_⟩⟩
  rw [up_I, Int.toNat_natCast] at eb
  have e9 : (fun j => mI (if j = S.1 then mx_w ((if S.1 = S.1 then 0 else S.2.1 S.1) + 1) else if j = S.1 then 0 else S.2.1 j)) = fun j => mI (if j = S.1 then 1 else S.2.1 j) := by
    funext j
    rw [if_pos (rfl : S.1 = S.1)]
    by_cases c : j = S.1
    · simp only [c, if_true]; rw [mx_w_id (by omega) (by omega)]; rfl
    · simp only [c, if_false]
  have eb : σb = σ3 := by rw [eb, ← hσ3]; exact congrArg (fun f => mx_wr σ2 (g + 1) (.inr (0, 512, f))) e9
  subst eb
  exact ⟨_, w3.1, σ4, m4, by rw [F.2.2.1]; exact hk0, by rw [F.2.2.2.1]; exact hw0, hQ⟩
/-- a document is dead where it lived -/
def gBur (S : mt_G) (d i : Nat) (n : Int) : mt_G := (S.1, fun j => if j = i then S.2.1 i - 1 else S.2.1 j, fun j => if j = i then S.2.2.1 i + 1 else S.2.2.1 j, fun j => if j = i then S.2.2.2.1 i + n else S.2.2.2.1 j, fun j => if j = d then -1 else S.2.2.2.2 j)
theorem c7_bury {σ : mx_S} {g : Nat} {S : mt_G} (h : isG σ g S) (hb : sB σ ≤ g) {d i : Nat} (hd : d < 40) (hi : S.2.2.2.2 d = i) (hi2 : i < S.1 ∧ i < 512) {n : Int} (b1 : -10000 ≤ S.2.1 i ∧ S.2.1 i ≤ 10000) (b2 : -10000 ≤ S.2.2.1 i ∧ S.2.2.1 i ≤ 10000) (b3 : -10000 ≤ S.2.2.2.1 i ∧ S.2.2.2.1 i ≤ 10000) (b4 : 0 ≤ n ∧ n ≤ 40) : ∃ σ' : mx_S, isG σ' g (gBur S d i n) ∧ fr g (g + 5) σ σ' ∧ mx_MS Y7_bury [mR g, mI (d : Int), mI n] σ (.inl (none, σ')) := by
  obtain ⟨h0, h1, h2, h3, h4⟩ := id h
  have eh : gHome S d = i := by
    unfold gHome
    rw [if_neg (by omega), if_neg (by omega), Int.toNat_natCast, hi]
  have w1 : isG (mx_wr (mx_wr (mx_wr σ (g + 1) (.inr (0, 512, fun j => mI (if j = i then S.2.1 i - 1 else S.2.1 j)))) (g + 2) (.inr (0, 512, fun j => mI (if j = i then S.2.2.1 i + 1 else S.2.2.1 j)))) (g + 3) (.inr (0, 512, fun j => mI (if j = i then S.2.2.2.1 i + n else S.2.2.2.1 j)))) g (S.1, fun j => if j = i then S.2.1 i - 1 else S.2.1 j, fun j => if j = i then S.2.2.1 i + 1 else S.2.2.1 j, fun j => if j = i then S.2.2.2.1 i + n else S.2.2.2.1 j, S.2.2.2.2) := by
    refine ⟨?_, ?_, ?_, wr_at, ?_⟩
    · exact (wr_ne (by omega)).trans ((wr_ne (by omega)).trans ((wr_ne (by omega)).trans h0))
    · exact (wr_ne (by omega)).trans ((wr_ne (by omega)).trans wr_at)
    · exact (wr_ne (by omega)).trans wr_at
    · exact (wr_ne (by omega)).trans ((wr_ne (by omega)).trans ((wr_ne (by omega)).trans h4))
  have f1 : fr g (g + 5) σ (mx_wr (mx_wr (mx_wr σ (g + 1) (.inr (0, 512, fun j => mI (if j = i then S.2.1 i - 1 else S.2.1 j)))) (g + 2) (.inr (0, 512, fun j => mI (if j = i then S.2.2.1 i + 1 else S.2.2.1 j)))) (g + 3) (.inr (0, 512, fun j => mI (if j = i then S.2.2.2.1 i + n else S.2.2.2.1 j)))) := ((fr.wr (by omega) (by omega)).tr (fr.wr (by omega) (by omega))).tr (fr.wr (by omega) (by omega))
  obtain ⟨σ4, w4, f4, m4⟩ := c7_setHome w1 (by rw [f1.1]; exact hb) hd (-1)
  have F := f1.tr f4
  refine ⟨σ4, w4, F, ?_⟩
  refine mx_retE (by decide) rfl (Nat.le_of_ble_eq_true rfl) F.1 (by rw [F.2.2.1]; exact Nat.le_refl _) (by rw [F.2.2.2.1]; exact Nat.le_refl _) fun kb wb Q hk hw hQ => ?_
  have hk0 : sK σ ≤ kb := by rw [← F.2.2.1]; exact hk
  have hw0 : sW σ ≤ wb := by rw [← F.2.2.2.1]; exact hw
  refine B_Y7_bury_0 ⟨_, h0, _, _, c7_homeOf h _, hk0, hw0, _, h0, _, _, c7_isSegment h _, hk0, hw0, ?_⟩
  rw [eh]
  refine ⟨fun c => absurd (gIs_0.mp c) (by omega), fun c1 => ⟨_, h0, _, rfl, _, _, h1, by omega, by omega, _, rfl, _, _, h1, by omega, by omega, by omega, fun σa ea => ?_⟩⟩
  rw [up_I, Int.toNat_natCast, mx_w_id (by omega) (by omega)] at ea
  subst ea
  refine ⟨_, (wr_ne (by omega)).trans h0, _, rfl, _, _, (wr_ne (by omega)).trans h2, by omega, by omega, _, rfl, _, _, (wr_ne (by omega)).trans h2, by show sB σ ≤ _; omega, by omega, by omega, fun σb eb => ?_⟩
  rw [up_I, Int.toNat_natCast, mx_w_id (by omega) (by omega)] at eb
  subst eb
  refine ⟨_, (wr_ne (by omega)).trans ((wr_ne (by omega)).trans h0), _, rfl, _, _, (wr_ne (by omega)).trans ((wr_ne (by omega)).trans h3), by omega, by omega, _, rfl, _, _, (wr_ne (by omega)).trans ((wr_ne (by omega)).trans h3), by show sB σ ≤ _; omega, by omega, by omega, fun σc ec => ?_⟩
  rw [up_I, Int.toNat_natCast, mx_w_id (by omega) (by omega)] at ec
  subst ec
  exact B_Y7_bury_44 ⟨_, w1.1, σ4, m4, by rw [F.2.2.1]; exact hk0, by rw [F.2.2.2.1]; exact hw0, hQ⟩
/-- how many documents live in the segments below n -/
def gSum (S : mt_G) : Nat → Int
  | 0 => 0
  | n + 1 => gSum S n + gLiv S n
theorem j7_h1 {σ : mx_S} {g t : Nat} {S : mt_G} (h : isG σ g S) (hS : ∀ k : Nat, k ≤ S.1 → 0 ≤ gSum S k ∧ gSum S k ≤ 100000) (hm : S.1 ≤ 512) {kb wb : Nat} {Q : mx_R → Prop} (hk : sK σ ≤ kb) (hw : sW σ ≤ wb) (K : mx_J Y7_houses kb wb 28 [some (mR g), some (mR t), some (mI (gSum S S.1)), some (mI 0)] [] σ Q) : ∀ (n k : Nat), k + n = S.1 → mx_J Y7_houses kb wb 4 [some (mR g), some (mR t), some (mI (gSum S k)), some (mI (k : Int))] [] σ Q
  | 0, k, e => by
    refine B_Y7_houses_4 ⟨_, h.1, _, rfl, fun c1 => ?_, fun c1 => absurd c1 (by omega)⟩
    rw [show k = S.1 by omega]
    exact K
  | n + 1, k, e => by
    have h1 := hS (k + 1) (by omega)
    simp only [gSum] at h1
    refine B_Y7_houses_4 ⟨_, h.1, _, rfl, fun c1 => absurd c1 (by omega), fun c1 => ⟨_, h.1, _, _, c7_livingAt h _, hk, hw, ?_⟩⟩
    rw [mx_w_id (x := gSum S k + gLiv S k) (by omega) (by omega), mx_w_id (x := (k : Int) + 1) (by omega) (by omega)]
    exact j7_h1 h hS hm hk hw K n (k + 1) (by omega)
theorem j7_h2 {σ : mx_S} {g t : Nat} {S : mt_G} {T : mt_T} (h : isG σ g S) (ht : isT σ t T) (ok : okT T) (hn : ∀ k : Nat, k < T.1 → gIs S (gHome S (tNum T k)) ≠ 0) {kb wb : Nat} {Q : mx_R → Prop} (hk : sK σ ≤ kb) (hw : sW σ ≤ wb) {x : Int} (hx : x = T.1) (hQ : Q (.inl (some (mI 1), σ))) : ∀ (n k : Nat), k + n = T.1 → mx_J Y7_houses kb wb 28 [some (mR g), some (mR t), some (mI x), some (mI (k : Int))] [] σ Q
  | 0, k, e => by
    refine B_Y7_houses_28 ⟨_, ht.1, _, _, c8_many ht, hk, hw, fun c1 => ⟨_, ht.1, _, _, c8_many ht, hk, hw, fun c => absurd hx c, fun _ => hQ⟩, fun c1 => absurd c1 (by omega)⟩
  | n + 1, k, e => by
    have h9 := ok.1
    refine B_Y7_houses_28 ⟨_, ht.1, _, _, c8_many ht, hk, hw, fun c1 => absurd c1 (by omega), fun c1 => ⟨_, ht.1, _, _, c8_numberAt ht _, hk, hw, _, h.1, _, _, c7_homeOf h _, hk, hw, _, h.1, _, _, c7_isSegment h _, hk, hw, fun c2 => ?_, fun c2 => absurd (hn k (by omega)) c2⟩⟩
    rw [mx_w_id (x := (k : Int) + 1) (by omega) (by omega)]
    exact j7_h2 h ht ok hn hk hw hx hQ n (k + 1) (by omega)
theorem c7_houses {σ : mx_S} {g t : Nat} {S : mt_G} {T : mt_T} (h : isG σ g S) (ht : isT σ t T) (ok : okT T) (hm : S.1 ≤ 512) (hS : ∀ k : Nat, k ≤ S.1 → 0 ≤ gSum S k ∧ gSum S k ≤ 100000) (hn : ∀ k : Nat, k < T.1 → gIs S (gHome S (tNum T k)) ≠ 0) (hx : gSum S S.1 = T.1) : mx_MS Y7_houses [mR g, mR t] σ (.inl (some (mI 1), σ)) := by
  refine mx_pure (by decide) rfl (Nat.le_of_ble_eq_true rfl) fun kb wb Q hk hw hQ => ?_
  exact B_Y7_houses_0 (j7_h1 h hS hm hk hw (j7_h2 h ht ok hn hk hw hx hQ T.1 0 (by omega)) S.1 0 (by omega))
