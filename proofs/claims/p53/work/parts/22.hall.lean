/-! The hall. -/
theorem c2_present {σ : mx_S} {h : Nat} {A : mt_H} (w : isH σ h A) : mx_MS Y2_present [mR h] σ (.inl (some (mR (h + 1)), σ)) := by
  refine mx_pure (by decide) rfl (Nat.le_of_ble_eq_true rfl) fun kb wb Q hk hw hQ => ?_
  exact B_Y2_present_0 ⟨_, w.1, _, rfl, hQ⟩
theorem c2_hasRoom {σ : mx_S} {h : Nat} {A : mt_H} (w : isH σ h A) (h1 : A.1.1.1 < 12) (h2 : A.2.2.2.2.1 < 40) : mx_MS Y2_hasRoom [mR h] σ (.inl (some (mI 1), σ)) := by
  refine mx_pure (by decide) rfl (Nat.le_of_ble_eq_true rfl) fun kb wb Q hk hw hQ => ?_
  exact B_Y2_hasRoom_0 ⟨_, w.1, _, rfl, _, w.2.1.1, _, _, c9_texts w.2.1, hk, hw, _, w.2.1.2.1.1, _, _, c8_many w.2.1.2.1, hk, hw, fun c => absurd c (by omega), fun _ => ⟨_, w.1, _, rfl, fun c => absurd c (by omega), fun _ => hQ⟩⟩
theorem c2_takeIn {σ : mx_S} {h r : Nat} {A : mt_H} {R : mt_R} {D : mt_D} {x : List Int} (w : isH σ h A) (hb : sB σ ≤ h) (g : isR σ r R) (okr : okR R) (hx : repR R x) (dj : r + 2 ≤ h ∨ h + 82 ≤ r) (vo : vOK A.1 D) (hD : D.length < 12) (ha : A.2.2.2.2.1 = D.length) (hs : A.2.2.2.1.1 < 512) : ∃ (σ' : mx_S) (A' : mt_H), isH σ' h A' ∧ vOK A'.1 (D ++ [x]) ∧ A'.2.1 = A.2.1 ∧ A'.2.2.1 = A.2.2.1 ∧ A'.2.2.2.1 = gSet A.2.2.2.1 D.length ∧ A'.2.2.2.2.1 = D.length + 1 ∧ A'.2.2.2.2.2 = A.2.2.2.2.2 ∧ fr h (h + 82) σ σ' ∧ mx_MS Y2_takeIn [mR h, mR r] σ (.inl (some (mI (D.length : Int)), σ')) := by
  obtain ⟨ok, hr, ho⟩ := vo
  have hm : A.1.1.1 = D.length := hr.1
  obtain ⟨w0, w1, w2, w3, w4, w5⟩ := id w
  obtain ⟨σ1, t1, F1, m1⟩ := c8_append w1.2.1 (by omega) ok g okr (by omega) (A.1.1.1 : Int) (by omega)
  obtain ⟨ok1, hr1⟩ := rep_app hr ok hx okr (by omega)
  have v1 : isV σ1 (h + 1) ((A.1.1.1 + 1, wSiz A.1.1.2.1 A.1.1.1 (A.1.1.1 : Int), wSiz (wSiz A.1.1.2.2.1 A.1.1.1 0) A.1.1.1 ((0 + R.1 : Nat) : Int), wLet A.1.1.2.2.2 R.2 (A.1.1.1 * 40 + 0) R.1 (0 - 0)), A.1.2) := ⟨(F1.at (by omega)).trans w1.1, t1, (F1.at (by omega)).trans w1.2.2.1, (F1.at (by omega)).trans w1.2.2.2.1, (F1.at (by omega)).trans w1.2.2.2.2⟩
  obtain ⟨σ2, v2, F2, m2⟩ := c9_forget v1 (by rw [F1.1]; omega)
  have s2 : isG σ2 (h + 11) A.2.2.2.1 := w5.kp (fun q q1 q2 => (F2.at (by omega)).trans (F1.at (by omega)))
  obtain ⟨σ3, s3, F3, m3⟩ := c7_settle s2 (by rw [F2.1, F1.1]; omega) (d := D.length) (by omega) hs
  have F : fr h (h + 82) σ σ3 := ((F1.mono (by omega) (by omega)).tr (F2.mono (by omega) (by omega))).tr (F3.mono (by omega) (by omega))
  have a2 : sH σ2 h = sH σ h := (F2.at (by omega)).trans (F1.at (by omega))
  have a3 : sH σ3 h = sH σ h := (F3.at (by omega)).trans a2
  have F4 : fr h (h + 82) σ3 (mx_wr σ3 h (.inl (2, [mR (h + 1), mR (h + 9), mR (h + 10), mR (h + 11), mR (h + 16), mI ((D.length + 1 : Nat) : Int), mI A.2.2.2.2.2]))) := fr.wr (by omega) (by omega)
  refine ⟨mx_wr σ3 h (.inl (2, [mR (h + 1), mR (h + 9), mR (h + 10), mR (h + 11), mR (h + 16), mI ((D.length + 1 : Nat) : Int), mI A.2.2.2.2.2])), ((_, 0, 0, A.1.2.2.2), A.2.1, A.2.2.1, gSet A.2.2.2.1 D.length, D.length + 1, A.2.2.2.2.2), ⟨wr_at, v2.kp (fun q q1 q2 => (wr_ne (by omega)).trans (F3.at (by omega))), w2.kp (fun q q1 q2 => (wr_ne (by omega)).trans ((F3.at (by omega)).trans ((F2.at (by omega)).trans (F1.at (by omega))))), ?_, ?_, s3.kp (fun q q1 q2 => wr_ne (by omega))⟩, ⟨ok1, hr1, Or.inl rfl⟩, rfl, rfl, rfl, rfl, rfl, F.tr F4, ?_⟩
  · obtain ⟨f, f1, f2⟩ := w3
    exact ⟨f, (wr_ne (by omega)).trans ((F3.at (by omega)).trans ((F2.at (by omega)).trans ((F1.at (by omega)).trans f1))), f2⟩
  · exact (wr_ne (by omega)).trans ((F3.at (by omega)).trans ((F2.at (by omega)).trans ((F1.at (by omega)).trans w4)))
  have FF := F.tr F4
  refine mx_retE (by decide) rfl (Nat.le_of_ble_eq_true rfl) FF.1 (by rw [FF.2.2.1]; exact Nat.le_refl _) (by rw [FF.2.2.2.1]; exact Nat.le_refl _) fun kb wb Q hk hw hQ => ?_
  have hk0 : sK σ ≤ kb := by rw [← FF.2.2.1]; exact hk
  have hw0 : sW σ ≤ wb := by rw [← FF.2.2.2.1]; exact hw
  have e9 : ((A.1.1.1 : Nat) : Int) = ((D.length : Nat) : Int) := by rw [hm]
  rw [e9] at m1
  refine B_Y2_takeIn_0 ⟨_, w0, _, rfl, _, w0, _, rfl, _, w1.1, _, _, c9_texts w1, hk0, hw0, _, w1.2.1.1, ?_⟩
  rw [ha]
  refine ⟨σ1, m1, by rw [F1.2.2.1]; exact hk0, by rw [F1.2.2.2.1]; exact hw0, _, (F1.at (by omega)).trans w0, _, rfl, _, v1.1, σ2, m2, by rw [F2.2.2.1, F1.2.2.1]; exact hk0, by rw [F2.2.2.2.1, F1.2.2.2.1]; exact hw0, _, a2.trans w0, _, rfl, _, s2.1, σ3, m3, by rw [F.2.2.1]; exact hk0, by rw [F.2.2.2.1]; exact hw0, _, a3.trans w0, _, rfl, _, a3.trans w0, Nat.le_of_ble_eq_true rfl, by rw [F.1]; exact hb, fun σ4 e4 => ?_⟩
  rw [ha, mx_w_id (x := (D.length : Int) + 1) (by omega) (by omega)] at e4
  subst e4
  exact hQ
theorem c2_bury {σ : mx_S} {h : Nat} {A : mt_H} {D : mt_D} (w : isH σ h A) (hb : sB σ ≤ h) (vo : vOK A.1 D) (hD : 0 < D.length) (hs : sgA A.2.2.2.1 D.length) : ∃ σ' : mx_S, isH σ' h (A.1, A.2.1, A.2.2.1, gBur A.2.2.2.1 0 0 (lenD D 0), A.2.2.2.2) ∧ fr h (h + 82) σ σ' ∧ mx_MS Y2_bury [mR h, mI 0] σ (.inl (none, σ')) := by
  obtain ⟨ok, hr, ho⟩ := vo
  have h12 := hr.2.1
  obtain ⟨w0, w1, w2, w3, w4, w5⟩ := id w
  obtain ⟨b1, b2, b3, b4⟩ := hs.2 0 hD
  have hl := rep_len hr 0
  obtain ⟨σ1, s1, F1, m1⟩ := c7_bury (d := 0) (i := 0) (n := (lenD D 0 : Int)) w5 (by omega) (by omega) b4 ⟨by rw [hs.1]; exact hD, by omega⟩ (by omega) (by omega) (by omega) (by omega)
  have F : fr h (h + 82) σ σ1 := F1.mono (by omega) (by omega)
  refine ⟨σ1, ⟨(F1.at (by omega)).trans w0, w1.kp (fun q q1 q2 => F1.at (by omega)), w2.kp (fun q q1 q2 => F1.at (by omega)), ?_, (F1.at (by omega)).trans w4, s1⟩, F, ?_⟩
  · obtain ⟨f, f1, f2⟩ := w3
    exact ⟨f, (F1.at (by omega)).trans f1, f2⟩
  refine mx_retE (by decide) rfl (Nat.le_of_ble_eq_true rfl) F.1 (by rw [F.2.2.1]; exact Nat.le_refl _) (by rw [F.2.2.2.1]; exact Nat.le_refl _) fun kb wb Q hk hw hQ => ?_
  have hk0 : sK σ ≤ kb := by rw [← F.2.2.1]; exact hk
  have hw0 : sW σ ≤ wb := by rw [← F.2.2.2.1]; exact hw
  have e1 : tNum A.1.1 (0 : Int) = ((0 : Nat) : Int) := rep_num hr hD
  have e2 : tSize A.1.1 (0 : Int) = (lenD D 0 : Int) := rep_size hr 0
  refine B_Y2_bury_0 ⟨_, w0, _, rfl, _, w0, _, rfl, _, w1.1, _, _, c9_texts w1, hk0, hw0, _, w1.2.1.1, _, _, c8_numberAt w1.2.1 _, hk0, hw0, _, w0, _, rfl, _, w1.1, _, _, c9_texts w1, hk0, hw0, _, w1.2.1.1, _, _, c8_sizeAt w1.2.1 _, hk0, hw0, _, w5.1, σ1, ?_, hk, hw, hQ⟩
  rw [e1, e2]
  exact m1
theorem c2_widen {σ : mx_S} {h r : Nat} {A : mt_H} {R : mt_R} {d : List Int} {D : mt_D} {x : List Int} (w : isH σ h A) (hb : sB σ ≤ h) (g : isR σ r R) (okr : okR R) (hx : repR R x) (dj : r + 2 ≤ h ∨ h + 82 ≤ r) (vo : vOK A.1 (d :: D)) (hs : sgA A.2.2.2.1 (d :: D).length) (h40 : d.length + R.1 ≤ 40) : ∃ (σ' : mx_S) (A' : mt_H), isH σ' h A' ∧ vOK A'.1 ((x ++ d) :: D) ∧ A'.2.1 = A.2.1 ∧ A'.2.2.1 = A.2.2.1 ∧ sgB A'.2.2.2.1 (d :: D).length ∧ A'.2.2.2.2 = A.2.2.2.2 ∧ fr h (h + 82) σ σ' ∧ mx_MS Y2_widen [mR h, mI 0, mI 0, mR r] σ (.inl (none, σ')) := by
  obtain ⟨σ1, u, F1, m1⟩ := c2_bury w hb vo (by simp) hs
  obtain ⟨ok, hr, ho⟩ := vo
  have h12 := hr.2.1
  have hz : A.1.1.2.2.1 0 = (d.length : Int) := (hr.2.2 0 (by simp)).2.1
  obtain ⟨u0, u1, u2, u3, u4, u5⟩ := id u
  obtain ⟨σ2, t2, F2, m2⟩ := c8_widen (s := 0) (p := 0) (z := d.length) u1.2.1 (by rw [F1.1]; omega) ok (g.kp (fun q q1 q2 => F1.at (by omega))) okr (by omega) (by rw [hr.1]; simp) hz (by omega) h40
  obtain ⟨ok2, hr2⟩ := rep_ins hr ok hx okr h40
  have v2 : isV σ2 (h + 1) ((A.1.1.1, A.1.1.2.1, wSiz A.1.1.2.2.1 0 ((d.length + R.1 : Nat) : Int), wLet A.1.1.2.2.2 R.2 (0 * 40 + 0) R.1 (d.length - 0)), A.1.2) := ⟨(F2.at (by omega)).trans u1.1, t2, (F2.at (by omega)).trans u1.2.2.1, (F2.at (by omega)).trans u1.2.2.2.1, (F2.at (by omega)).trans u1.2.2.2.2⟩
  obtain ⟨σ3, v3, F3, m3⟩ := c9_forget v2 (by rw [F2.1, F1.1]; omega)
  have s3 : isG σ3 (h + 11) (gBur A.2.2.2.1 0 0 (lenD (d :: D) 0)) := u5.kp (fun q q1 q2 => (F3.at (by omega)).trans (F2.at (by omega)))
  have hs1 : (gBur A.2.2.2.1 0 0 (lenD (d :: D) 0)).1 < 512 := by show A.2.2.2.1.1 < 512; rw [hs.1]; omega
  obtain ⟨σ4, s4, F4, m4⟩ := c7_settle s3 (by rw [F3.1, F2.1, F1.1]; omega) (d := 0) (by omega) hs1
  have F : fr h (h + 82) σ σ4 := ((F1.tr (F2.mono (by omega) (by omega))).tr (F3.mono (by omega) (by omega))).tr (F4.mono (by omega) (by omega))
  have a3 : sH σ3 h = sH σ1 h := (F3.at (by omega)).trans (F2.at (by omega))
  have a4 : sH σ4 h = sH σ1 h := (F4.at (by omega)).trans a3
  refine ⟨σ4, ((_, 0, 0, A.1.2.2.2), A.2.1, A.2.2.1, gSet (gBur A.2.2.2.1 0 0 (lenD (d :: D) 0)) 0, A.2.2.2.2), ⟨a4.trans u0, v3.kp (fun q q1 q2 => F4.at (by omega)), u2.kp (fun q q1 q2 => (F4.at (by omega)).trans ((F3.at (by omega)).trans (F2.at (by omega)))), ?_, ?_, s4⟩, ⟨ok2, hr2, Or.inl rfl⟩, rfl, rfl, sgB_of hs (by simp) _, rfl, F, ?_⟩
  · obtain ⟨f, f1, f2⟩ := u3
    exact ⟨f, (F4.at (by omega)).trans ((F3.at (by omega)).trans ((F2.at (by omega)).trans f1)), f2⟩
  · exact (F4.at (by omega)).trans ((F3.at (by omega)).trans ((F2.at (by omega)).trans u4))
  refine mx_retE (by decide) rfl (Nat.le_of_ble_eq_true rfl) F.1 (by rw [F.2.2.1]; exact Nat.le_refl _) (by rw [F.2.2.2.1]; exact Nat.le_refl _) fun kb wb Q hk hw hQ => ?_
  have hk0 : sK σ ≤ kb := by rw [← F.2.2.1]; exact hk
  have hw0 : sW σ ≤ wb := by rw [← F.2.2.2.1]; exact hw
  have hk1 : sK σ1 ≤ kb := by rw [F1.2.2.1]; exact hk0
  have hw1 : sW σ1 ≤ wb := by rw [F1.2.2.2.1]; exact hw0
  have hk2 : sK σ2 ≤ kb := by rw [F2.2.2.1]; exact hk1
  have hw2 : sW σ2 ≤ wb := by rw [F2.2.2.2.1]; exact hw1
  have hk3 : sK σ3 ≤ kb := by rw [F3.2.2.1]; exact hk2
  have hw3 : sW σ3 ≤ wb := by rw [F3.2.2.2.1]; exact hw2
  have e1 : tNum (A.1.1.1, A.1.1.2.1, wSiz A.1.1.2.2.1 0 ((d.length + R.1 : Nat) : Int), wLet A.1.1.2.2.2 R.2 (0 * 40 + 0) R.1 (d.length - 0)) (0 : Int) = ((0 : Nat) : Int) := rep_num hr2 (by simp)
  refine B_Y2_widen_0 ⟨_, w.1, σ1, m1, hk1, hw1, _, u0, _, rfl, _, u1.1, _, _, c9_texts u1, hk1, hw1, _, u1.2.1.1, σ2, m2, hk2, hw2, _, (F2.at (by omega)).trans u0, _, rfl, _, v2.1, σ3, m3, hk3, hw3, _, a3.trans u0, _, rfl, _, a3.trans u0, _, rfl, _, v3.1, _, _, c9_texts v3, hk3, hw3, _, v3.2.1.1, _, _, c8_numberAt v3.2.1 _, hk3, hw3, _, s3.1, σ4, ?_, hk, hw, hQ⟩
  rw [e1]
  exact m4
theorem c2_shelf {σ : mx_S} {h : Nat} {A : mt_H} (w : isH σ h A) {i : Nat} (hi : i < 6) : mx_MS Y2_shelf [mR h, mI (i : Int)] σ (.inl (some (mR (h + 34 + 8 * i)), σ)) := by
  refine mx_pure (by decide) rfl (Nat.le_of_ble_eq_true rfl) fun kb wb Q hk hw hQ => ?_
  obtain ⟨f, f1, f2⟩ := w.2.2.2.1
  refine B_Y2_shelf_0 ⟨fun c => absurd c (by omega), fun _ => ⟨_, w.1, _, rfl, _, _, _, f1, fun c => absurd c (by omega), fun _ => ⟨_, w.1, _, rfl, _, _, _, f1, by decide, by omega, by omega, _, ?_, hQ⟩⟩⟩
  rw [Int.toNat_natCast]
  exact f2 i hi
theorem c2_shelfN {σ : mx_S} {h : Nat} : mx_MS Y2_shelf [mR h, mI (-1)] σ (.inl (some mN, σ)) := by
  refine mx_pure (by decide) rfl (Nat.le_of_ble_eq_true rfl) fun kb wb Q hk hw hQ => ?_
  exact B_Y2_shelf_0 ⟨fun _ => hQ, fun c => absurd (by decide) c⟩
theorem j2_shelfOf {σ : mx_S} {h : Nat} {A : mt_H} (w : isH σ h A) (x : Int) (hn : ∀ i : Nat, i < 6 → A.2.2.1 i ≠ x) {kb wb : Nat} {Q : mx_R → Prop} (hk : sK σ ≤ kb) (hw : sW σ ≤ wb) (hQ : Q (.inl (some (mI (-1)), σ))) : ∀ (n k : Nat), k + n = 6 → mx_J Y2_shelfOf kb wb 2 [some (mR h), some (mI x), some (mI (k : Int))] [] σ Q
  | 0, k, e => B_Y2_shelfOf_2 ⟨_, w.1, _, rfl, _, _, _, w.2.2.2.2.1, fun _ => hQ, fun c => absurd (by omega) c⟩
  | n + 1, k, e => by
    refine B_Y2_shelfOf_2 ⟨_, w.1, _, rfl, _, _, _, w.2.2.2.2.1, fun c => absurd c (by omega), fun _ => ⟨_, w.1, _, rfl, _, _, w.2.2.2.2.1, by omega, by omega, _, rfl, fun _ => B_Y2_shelfOf_28 ?_, fun c => absurd ?_ c⟩⟩
    · rw [mx_w_id (x := (k : Int) + 1) (by omega) (by omega)]
      exact j2_shelfOf w x hn hk hw hQ n (k + 1) (by omega)
    · rw [Int.toNat_natCast]
      exact hn k (by omega)
theorem c2_viewP {σ : mx_S} {h : Nat} {A : mt_H} (w : isH σ h A) : mx_MS Y2_viewOf [mR h, mI (-1)] σ (.inl (some (mR (h + 1)), σ)) := by
  refine mx_pure (by decide) rfl (Nat.le_of_ble_eq_true rfl) fun kb wb Q hk hw hQ => ?_
  exact B_Y2_viewOf_0 ⟨fun c => absurd rfl c, fun _ => ⟨_, w.1, _, rfl, hQ⟩⟩
theorem c2_viewN {σ : mx_S} {h : Nat} {A : mt_H} (w : isH σ h A) (hn : ∀ i : Nat, i < 6 → A.2.2.1 i = -1) : mx_MS Y2_viewOf [mR h, mI 0] σ (.inl (some mN, σ)) := by
  have s1 : mx_MS Y2_shelfOf [mR h, mI 0] σ (.inl (some (mI (-1)), σ)) := by
    refine mx_pure (by decide) rfl (Nat.le_of_ble_eq_true rfl) fun kb wb Q hk hw hQ => ?_
    exact B_Y2_shelfOf_0 (j2_shelfOf w 0 (fun i hi => by rw [hn i hi]; decide) hk hw hQ 6 0 rfl)
  refine mx_pure (by decide) rfl (Nat.le_of_ble_eq_true rfl) fun kb wb Q hk hw hQ => ?_
  exact B_Y2_viewOf_0 ⟨fun _ => ⟨_, w.1, _, _, s1, hk, hw, _, w.1, none, _, c2_shelfN, hk, hw, hQ⟩, fun c => absurd (by decide) c⟩
theorem c2_viewS {σ : mx_S} {h : Nat} {A : mt_H} (w : isH σ h A) (hn : A.2.2.1 0 = 0) : mx_MS Y2_viewOf [mR h, mI 0] σ (.inl (some (mR (h + 34)), σ)) := by
  have s1 : mx_MS Y2_shelfOf [mR h, mI 0] σ (.inl (some (mI 0), σ)) := by
    refine mx_pure (by decide) rfl (Nat.le_of_ble_eq_true rfl) fun kb wb Q hk hw hQ => ?_
    exact B_Y2_shelfOf_0 (B_Y2_shelfOf_2 ⟨_, w.1, _, rfl, _, _, _, w.2.2.2.2.1, fun c => absurd c (by omega), fun _ => ⟨_, w.1, _, rfl, _, _, w.2.2.2.2.1, by omega, by omega, _, rfl, fun c => absurd hn c, fun _ => ⟨fun c => absurd c (by decide), fun _ => hQ⟩⟩⟩)
  refine mx_pure (by decide) rfl (Nat.le_of_ble_eq_true rfl) fun kb wb Q hk hw hQ => ?_
  exact B_Y2_viewOf_0 ⟨fun _ => ⟨_, w.1, _, _, s1, hk, hw, _, w.1, some (h + 34), _, c2_shelf w (i := 0) (by omega), hk, hw, hQ⟩, fun c => absurd (by decide) c⟩
theorem j2_kept {σ : mx_S} {h : Nat} {A : mt_H} (w : isH σ h A) (hn : ∀ i : Nat, i < 6 → A.2.2.1 i = -1) {kb wb : Nat} {Q : mx_R → Prop} (hQ : Q (.inl (some (mI 0), σ))) : ∀ (n k : Nat), k + n = 6 → mx_J Y2_snapshotsKept kb wb 4 [some (mR h), some (mI 0), some (mI (k : Int))] [] σ Q
  | 0, k, e => B_Y2_snapshotsKept_4 ⟨_, w.1, _, rfl, _, _, _, w.2.2.2.2.1, fun _ => hQ, fun c => absurd (by omega) c⟩
  | n + 1, k, e => by
    refine B_Y2_snapshotsKept_4 ⟨_, w.1, _, rfl, _, _, _, w.2.2.2.2.1, fun c => absurd c (by omega), fun _ => ⟨_, w.1, _, rfl, _, _, w.2.2.2.2.1, by omega, by omega, _, rfl, fun _ => B_Y2_snapshotsKept_26 ?_, fun c => absurd ?_ c⟩⟩
    · rw [mx_w_id (x := (k : Int) + 1) (by omega) (by omega)]
      exact j2_kept w hn hQ n (k + 1) (by omega)
    · rw [Int.toNat_natCast]
      exact hn k (by omega)
theorem c2_canTake {σ : mx_S} {h : Nat} {A : mt_H} (w : isH σ h A) (hn : ∀ i : Nat, i < 6 → A.2.2.1 i = -1) (ht : A.2.2.2.2.2 < 20) : mx_MS Y2_canTake [mR h] σ (.inl (some (mI 1), σ)) := by
  have s1 : mx_MS Y2_snapshotsKept [mR h] σ (.inl (some (mI 0), σ)) := by
    refine mx_pure (by decide) rfl (Nat.le_of_ble_eq_true rfl) fun kb wb Q hk hw hQ => ?_
    exact B_Y2_snapshotsKept_0 (j2_kept w hn hQ 6 0 rfl)
  refine mx_pure (by decide) rfl (Nat.le_of_ble_eq_true rfl) fun kb wb Q hk hw hQ => ?_
  exact B_Y2_canTake_0 ⟨_, w.1, _, _, s1, hk, hw, fun c => absurd c (by decide), fun _ => ⟨_, w.1, _, rfl, fun c => absurd c (by omega), fun _ => hQ⟩⟩
theorem c2_take {σ : mx_S} {h : Nat} {A : mt_H} {D : mt_D} (w : isH σ h A) (hb : sB σ ≤ h) (vo : vOK A.1 D) (ok2 : okT A.2.1.1) (hn : A.2.2.1 0 = -1) (ht : A.2.2.2.2.2 = 0) : ∃ (σ' : mx_S) (A' : mt_H), isH σ' h A' ∧ A'.1 = A.1 ∧ vOK A'.2.1 D ∧ A'.2.2.1 0 = 0 ∧ (∀ i : Nat, 0 < i → A'.2.2.1 i = A.2.2.1 i) ∧ A'.2.2.2.1 = A.2.2.2.1 ∧ A'.2.2.2.2.1 = A.2.2.2.2.1 ∧ fr h (h + 82) σ σ' ∧ mx_MS Y2_take [mR h] σ (.inl (some (mI 0), σ')) := by
  obtain ⟨ok, hr, ho⟩ := vo
  obtain ⟨w0, w1, w2, w3, w4, w5⟩ := id w
  obtain ⟨σ1, v1, F1, m1⟩ := c9_become w2 (by omega) w1 ok (by omega)
  obtain ⟨ok1, hr1⟩ := rep_mix hr ok ok2
  have F2 : fr h (h + 82) σ1 (mx_wr σ1 (h + 10) (.inr (0, 6, fun j => mI (if j = 0 then 0 else A.2.2.1 j)))) := fr.wr (by omega) (by omega)
  have F3 : fr h (h + 82) (mx_wr σ1 (h + 10) (.inr (0, 6, fun j => mI (if j = 0 then 0 else A.2.2.1 j)))) (mx_wr (mx_wr σ1 (h + 10) (.inr (0, 6, fun j => mI (if j = 0 then 0 else A.2.2.1 j)))) h (.inl (2, [mR (h + 1), mR (h + 9), mR (h + 10), mR (h + 11), mR (h + 16), mI A.2.2.2.2.1, mI ((1 : Nat) : Int)]))) := fr.wr (by omega) (by omega)
  have F := ((F1.mono (lo' := h) (hi' := h + 82) (by omega) (by omega)).tr F2).tr F3
  refine ⟨mx_wr (mx_wr σ1 (h + 10) (.inr (0, 6, fun j => mI (if j = 0 then 0 else A.2.2.1 j)))) h (.inl (2, [mR (h + 1), mR (h + 9), mR (h + 10), mR (h + 11), mR (h + 16), mI A.2.2.2.2.1, mI ((1 : Nat) : Int)])), (A.1, (_, 0, 0, A.2.1.2.2.2), fun j => if j = 0 then 0 else A.2.2.1 j, A.2.2.2.1, A.2.2.2.2.1, 1), ⟨wr_at, w1.kp (fun q q1 q2 => (wr_ne (by omega)).trans ((wr_ne (by omega)).trans (F1.at (by omega)))), v1.kp (fun q q1 q2 => (wr_ne (by omega)).trans (wr_ne (by omega))), ?_, (wr_ne (by omega)).trans wr_at, w5.kp (fun q q1 q2 => (wr_ne (by omega)).trans ((wr_ne (by omega)).trans (F1.at (by omega))))⟩, rfl, ⟨ok1, hr1, Or.inl rfl⟩, show (if 0 = 0 then (0 : Int) else A.2.2.1 0) = 0 from if_pos rfl, fun i hi => show (if i = 0 then (0 : Int) else A.2.2.1 i) = A.2.2.1 i from if_neg (by omega), rfl, rfl, F, ?_⟩
  · obtain ⟨f, f1, f2⟩ := w3
    exact ⟨f, (wr_ne (by omega)).trans ((wr_ne (by omega)).trans ((F1.at (by omega)).trans f1)), f2⟩
  refine mx_retE (by decide) rfl (Nat.le_of_ble_eq_true rfl) F.1 (by rw [F.2.2.1]; exact Nat.le_refl _) (by rw [F.2.2.2.1]; exact Nat.le_refl _) fun kb wb Q hk hw hQ => ?_
  have hk0 : sK σ ≤ kb := by rw [← F.2.2.1]; exact hk
  have hw0 : sW σ ≤ wb := by rw [← F.2.2.2.1]; exact hw
  have a0 : sH σ1 h = sH σ h := F1.at (by omega)
  refine B_Y2_take_0 ⟨_, w0, _, rfl, ?_⟩
  rw [ht]
  refine B_Y2_take_7 ⟨_, w0, _, rfl, _, _, _, w4, fun c => absurd c (by omega), fun _ => ⟨_, w0, some (h + 34), _, c2_shelf w (i := 0) (by omega), hk0, hw0, _, w0, _, rfl, _, _, w4, by omega, by omega, _, rfl, fun c => absurd hn c, fun _ => ⟨fun c => (by cases c), fun a ea => ?_⟩⟩⟩
  cases ea
  refine ⟨_, w0, _, rfl, _, w2.1, σ1, m1, by rw [F1.2.2.1]; exact hk0, by rw [F1.2.2.2.1]; exact hw0, _, a0.trans w0, _, rfl, _, _, (F1.at (by omega)).trans w4, by rw [F1.1]; omega, by omega, by omega, fun σ2 e2 => ?_⟩
  rw [up_I] at e2
  have e2 : σ2 = mx_wr σ1 (h + 10) (.inr (0, 6, fun j => mI (if j = 0 then 0 else A.2.2.1 j))) := e2
  subst e2
  refine ⟨_, (wr_ne (by omega)).trans (a0.trans w0), _, rfl, _, (wr_ne (by omega)).trans (a0.trans w0), Nat.le_of_ble_eq_true rfl, by show sB σ1 ≤ _; rw [F1.1]; exact hb, fun σ3 e3 => ?_⟩
  rw [ht, mx_w_id (by omega) (by omega)] at e3
  subst e3
  exact hQ
theorem j2_iw {h : Nat} {A : mt_H} {σ : mx_S} (w : isH σ h A) {kb wb : Nat} {Q : mx_R → Prop} (hk : sK σ ≤ kb) (hw : sW σ ≤ wb) (K : mx_J Y2_isWhole kb wb 2 [some (mR h), some (mI 6), none] [] σ Q) : ∀ (n k : Nat), k + n = 6 → (∀ i : Nat, k ≤ i → i < 6 → A.2.2.1 i = -1) → mx_J Y2_isWhole kb wb 2 [some (mR h), some (mI (k : Int)), none] [] σ Q
  | 0, k, e, hn => by
    rw [show (k : Int) = 6 by omega]
    exact K
  | n + 1, k, e, hn => by
    refine B_Y2_isWhole_2 ⟨_, w.1, _, rfl, _, _, _, w.2.2.2.2.1, fun c => absurd c (by omega), fun _ => ⟨_, w.1, some (h + 34 + 8 * k), _, c2_shelf w (by omega), hk, hw, _, w.1, _, rfl, _, _, w.2.2.2.2.1, by omega, by omega, _, rfl, fun _ => B_Y2_isWhole_40 ?_, fun c => absurd ?_ c⟩⟩
    · rw [mx_w_id (x := (k : Int) + 1) (by omega) (by omega)]
      exact j2_iw w hk hw K n (k + 1) (by omega) (fun i hi h6 => hn i (by omega) h6)
    · rw [Int.toNat_natCast]
      exact hn k (by omega) (by omega)
/-- the present is in order, and lives in segments -/
theorem j2_last {h : Nat} {A : mt_H} {D : mt_D} {σ : mx_S} (w : isH σ h A) (hb : sB σ ≤ h) (vo : vOK A.1 D) (hl : letD D) (hne : ∀ k, k < D.length → 0 < lenD D k) (hs : sgK A.2.2.2.1 D.length) : ∃ (σ' : mx_S) (V' : mt_V), isH σ' h (V', A.2) ∧ V'.1 = A.1.1 ∧ ordV V' D ∧ fr h (h + 82) σ σ' ∧ ∀ (kb wb : Nat) (Q : mx_R → Prop), sK σ ≤ kb → sW σ ≤ wb → Q (.inl (some (mI 1), σ')) → mx_J Y2_isWhole kb wb 2 [some (mR h), some (mI 6), none] [] σ Q := by
  obtain ⟨ok, hr, ho⟩ := vo
  obtain ⟨w0, w1, w2, w3, w4, w5⟩ := id w
  obtain ⟨σ', V', v', e, o, F, m⟩ := c9_isInOrder w1 (by omega) ok hr hl hne ho
  have s' : isG σ' (h + 11) A.2.2.2.1 := w5.kp (fun q q1 q2 => F.at (by omega))
  refine ⟨σ', V', ⟨(F.at (by omega)).trans w0, v', w2.kp (fun q q1 q2 => F.at (by omega)), ?_, (F.at (by omega)).trans w4, s'⟩, e, o, F.mono (by omega) (by omega), fun kb wb Q hk hw hQ => ?_⟩
  · obtain ⟨f, f1, f2⟩ := w3
    exact ⟨f, (F.at (by omega)).trans f1, f2⟩
  have hk1 : sK σ' ≤ kb := by rw [F.2.2.1]; exact hk
  have hw1 : sW σ' ≤ wb := by rw [F.2.2.2.1]; exact hw
  obtain ⟨q1, q2, q3⟩ := sgK_sum hs
  rw [← e] at ok hr
  have hh : mx_MS Y7_houses [mR (h + 11), mR (h + 1 + 1)] σ' (.inl (some (mI 1), σ')) := c7_houses s' v'.2.1 ok q1 q2 (fun k hk => by
    have := hr.1
    rw [rep_num hr (by omega)]
    exact sgK_home hs (by omega)) (by rw [q3, hr.1])
  exact B_Y2_isWhole_2 ⟨_, w0, _, rfl, _, _, _, w4, fun _ => ⟨_, w0, _, rfl, _, w1.1, _, σ', m, hk1, hw1, fun c => absurd c (by decide), fun _ => ⟨_, (F.at (by omega)).trans w0, _, rfl, _, (F.at (by omega)).trans w0, _, rfl, _, v'.1, _, _, c9_texts v', hk1, hw1, _, s'.1, _, _, hh, hk1, hw1, fun c => absurd c (by decide), fun _ => hQ⟩⟩, fun c => absurd (by decide) c⟩
