/-! A new hall, a new object. -/
theorem c0_init {σ : mx_S} {d : Nat} (h : sH σ d = some (.inl (0, [mN, mI 0]))) (hn : sN σ = d + 1) (hb : sB σ ≤ d) : ∃ σ' : mx_S, fa d 17 184 σ σ' ∧ mx_MS Y0_init [mR d] σ (.inl (none, σ')) := by
  obtain ⟨s1, e1⟩ : ∃ s, s = mx_wr (mx_al σ (.inr (4, 8, fun _ => mN)) 8) d (.inl (0, [mR (d + 1), mI 0])) := ⟨_, rfl⟩
  have F1 : fa d 1 8 σ s1 := by rw [e1]; exact (fa.al (by omega)).tr (fa.wr (Nat.le_refl _)) (Nat.le_refl _) rfl rfl
  have n1 : sN s1 = d + 2 := by rw [F1.2.1, hn]
  have a1 : sH s1 d = some (.inl (0, [mR (d + 1), mI 0])) := by rw [e1]; exact wr_at
  have b1 : sH s1 (d + 1) = some (.inr (4, 8, fun _ => mN)) := by rw [e1, wr_ne (by omega), ← hn]; exact al_at
  have key : ∀ (n k : Nat), k + n = 8 → ∀ s : mx_S, sB s ≤ d → sN s = d + 2 + 2 * k → sH s d = some (.inl (0, [mR (d + 1), mI 0])) → (∃ f, sH s (d + 1) = some (.inr (4, 8, f))) → ∃ s' : mx_S, fa d (2 * n) (22 * n) s s' ∧ ∀ (kb wb : Nat) (Q : mx_R → Prop), sK s' ≤ kb → sW s' ≤ wb → Q (.inl (none, s')) → mx_J Y0_init kb wb 15 [some (mR d), some (mI (k : Int))] [] s Q := by
    intro n
    induction n with
    | zero =>
      intro k hk s sb sn sd sa
      obtain ⟨f, sa⟩ := sa
      refine ⟨s, fa.rf, fun kb wb Q _ _ hQ => ?_⟩
      exact B_Y0_init_15 ⟨_, sd, _, rfl, _, _, _, sa, fun _ => hQ, fun c => absurd (by omega) c⟩
    | succ n ih =>
      intro k hk s sb sn sd sa
      obtain ⟨f, sa⟩ := sa
      obtain ⟨t0, q0⟩ : ∃ t, t = mx_al s (.inl (6, [mN, mI 0])) 2 := ⟨_, rfl⟩
      have G0_ : fa (sN s) 1 2 s t0 := by rw [q0]; exact fa.al (Nat.le_refl _)
      have r0 : sH t0 (sN s) = some (.inl (6, [mN, mI 0])) := by rw [q0]; exact al_at
      obtain ⟨t1, w1, G1, m1⟩ := c6_init r0 G0_.2.1 (by rw [G0_.1]; omega)
      have u0 : ∀ q, q < sN s → sH t1 q = sH s q := fun q hq => (G1.2.2.2.2 q hq).trans (G0_.2.2.2.2 q hq)
      obtain ⟨t2, q2⟩ : ∃ t, t = mx_wr t1 (d + 1) (.inr (4, 8, upV f ((k : Int)).toNat (mR (sN s)))) := ⟨_, rfl⟩
      have G2 : fa d 0 0 t1 t2 := by rw [q2]; exact fa.wr (by omega)
      have G : fa d 2 22 s t2 := ((fa.tr (lo := d) (⟨G0_.1, G0_.2.1, G0_.2.2.1, G0_.2.2.2.1, fun q hq => G0_.2.2.2.2 q (by omega)⟩ : fa d 1 2 s t0) G1 (by omega) rfl rfl)).tr G2 (Nat.le_refl _) rfl rfl
      have s2d : sH t2 d = some (.inl (0, [mR (d + 1), mI 0])) := by rw [q2, wr_ne (by omega), u0 _ (by omega)]; exact sd
      obtain ⟨s', H, K⟩ := ih (k + 1) (by omega) t2 (by rw [G.1]; exact sb) (by rw [G.2.1]; omega) s2d ⟨_, by rw [q2]; exact wr_at⟩
      refine ⟨s', G.tr H (Nat.le_refl _) (by omega) (by omega), fun kb wb Q hk9 hw9 hQ => ?_⟩
      have x1 := H.2.2.1
      have x2 := H.2.2.2.1
      have x3 := G.2.2.1
      have x4 := G.2.2.2.1
      have x5 := G2.2.2.1
      have x6 := G2.2.2.2.1
      refine B_Y0_init_15 ⟨_, sd, _, rfl, _, _, _, sa, fun c => absurd c (by omega), fun _ => ⟨_, sd, _, rfl, by omega, by omega, fun σ6 a7 p6 p7 => ?_⟩⟩
      have p6 := p6.trans q0.symm
      subst p6 p7
      refine ⟨t1, m1, by omega, by omega, _, _, _, (u0 _ (by omega)).trans sa, by rw [G1.1, G0_.1]; omega, by omega, by omega, w1.1, fun σ10 p10 => ?_⟩
      have p10 := p10.trans q2.symm
      subst p10
      rw [mx_w_id (x := (k : Int) + 1) (by omega) (by omega)]
      exact K kb wb Q hk9 hw9 hQ
  obtain ⟨s', H, K⟩ := key 8 0 rfl s1 (by rw [F1.1]; exact hb) n1 a1 ⟨_, b1⟩
  have F : fa d 17 184 σ s' := F1.tr H (Nat.le_refl _) rfl rfl
  refine ⟨s', F, ?_⟩
  refine mx_retE (by decide) rfl (Nat.le_of_ble_eq_true rfl) F.1 (by rw [F.2.2.1]; omega) (by rw [F.2.2.2.1]; omega) fun kb wb Q hk hw hQ => ?_
  have y1 := F.2.2.1
  have y2 := F.2.2.2.1
  refine B_Y0_init_0 ⟨by decide, by decide, by omega, by show sW σ + 8 ≤ wb; omega, fun σ1 a q1 qa => ?_⟩
  subst q1 qa
  refine ⟨_, (al_ne (by omega)).trans h, Nat.le_of_ble_eq_true rfl, hb, fun σ2 q2 => ?_⟩
  rw [hn] at q2
  have q2 := q2.trans e1.symm
  subst q2
  exact K kb wb Q hk hw hQ
abbrev H0 : mt_H := (V0, V0, fun j => if j < 6 then -1 else 0, G0, 0, 0)
set_option maxHeartbeats 16000000 in
theorem c2_init {σ : mx_S} {h : Nat} (w : sH σ h = some (.inl (2, [mN, mN, mN, mN, mN, mI 0, mI 0]))) (hn : sN σ = h + 1) (hb : sB σ ≤ h) : ∃ σ' : mx_S, isH σ' h H0 ∧ fa h 81 15457 σ σ' ∧ mx_MS Y2_init [mR h] σ (.inl (none, σ')) := by
  -- the present
  obtain ⟨s0, e0⟩ : ∃ s, s = mx_al σ (.inl (9, [mN, mN, mN, mN, mI 0, mI 0])) 6 := ⟨_, rfl⟩
  have F0 : fa h 1 6 σ s0 := by rw [e0]; exact fa.al (by omega)
  have n0 : sN s0 = h + 2 := by rw [F0.2.1, hn]
  have a0 : sH s0 (h + 1) = some (.inl (9, [mN, mN, mN, mN, mI 0, mI 0])) := by rw [e0, ← hn]; exact al_at
  obtain ⟨s1, v1, F1, m1⟩ := c9_init a0 n0 (by rw [F0.1]; omega)
  have n1 : sN s1 = h + 9 := by rw [F1.2.1, n0]
  have w1 : sH s1 h = some (.inl (2, [mN, mN, mN, mN, mN, mI 0, mI 0])) := by rw [F1.2.2.2.2 h (by omega), e0, al_ne (by omega)]; exact w
  obtain ⟨s2, e2⟩ : ∃ s, s = mx_wr s1 h (.inl (2, [mR (h + 1), mN, mN, mN, mN, mI 0, mI 0])) := ⟨_, rfl⟩
  have F2 : fa h 0 0 s1 s2 := by rw [e2]; exact fa.wr (Nat.le_refl _)
  have n2 : sN s2 = h + 9 := by rw [F2.2.1, n1]
  have w2 : sH s2 h = some (.inl (2, [mR (h + 1), mN, mN, mN, mN, mI 0, mI 0])) := by rw [e2]; exact wr_at
  have v2 : isV s2 (h + 1) V0 := v1.kp (fun q q1 q2 => by rw [e2]; exact wr_ne (by omega))
  -- shelves
  obtain ⟨s3, e3⟩ : ∃ s, s = mx_wr (mx_al s2 (.inr (5, 6, fun _ => mN)) 6) h (.inl (2, [mR (h + 1), mR (h + 9), mN, mN, mN, mI 0, mI 0])) := ⟨_, rfl⟩
  have F3 : fa h 1 6 s2 s3 := by rw [e3]; exact (fa.al (by omega)).tr (fa.wr (Nat.le_refl _)) (Nat.le_refl _) rfl rfl
  have n3 : sN s3 = h + 10 := by rw [F3.2.1, n2]
  have w3 : sH s3 h = some (.inl (2, [mR (h + 1), mR (h + 9), mN, mN, mN, mI 0, mI 0])) := by rw [e3]; exact wr_at
  have b3 : sH s3 (h + 9) = some (.inr (5, 6, fun _ => mN)) := by rw [e3, wr_ne (by omega), ← n2]; exact al_at
  have v3 : isV s3 (h + 1) V0 := v2.kp (fun q q1 q2 => by rw [e3, wr_ne (by omega), al_ne (by omega)])
  -- snapshots
  obtain ⟨s4, e4⟩ : ∃ s, s = mx_wr (mx_al s3 (.inr (0, 6, fun _ => mI 0)) 6) h (.inl (2, [mR (h + 1), mR (h + 9), mR (h + 10), mN, mN, mI 0, mI 0])) := ⟨_, rfl⟩
  have F4 : fa h 1 6 s3 s4 := by rw [e4]; exact (fa.al (by omega)).tr (fa.wr (Nat.le_refl _)) (Nat.le_refl _) rfl rfl
  have n4 : sN s4 = h + 11 := by rw [F4.2.1, n3]
  have w4 : sH s4 h = some (.inl (2, [mR (h + 1), mR (h + 9), mR (h + 10), mN, mN, mI 0, mI 0])) := by rw [e4]; exact wr_at
  have b4 : sH s4 (h + 9) = some (.inr (5, 6, fun _ => mN)) := by rw [e4, wr_ne (by omega), al_ne (by omega)]; exact b3
  have c4 : sH s4 (h + 10) = some (.inr (0, 6, fun j => mI (z0 j))) := by rw [e4, wr_ne (by omega), ← n3]; exact al_at
  have v4 : isV s4 (h + 1) V0 := v3.kp (fun q q1 q2 => by rw [e4, wr_ne (by omega), al_ne (by omega)])
  -- segments
  obtain ⟨s5, e5⟩ : ∃ s, s = mx_al s4 (.inl (7, [mN, mN, mN, mN, mI 0])) 5 := ⟨_, rfl⟩
  have F5 : fa (h + 11) 1 5 s4 s5 := by rw [e5]; exact fa.al (by omega)
  have n5 : sN s5 = h + 12 := by rw [F5.2.1, n4]
  have a5 : sH s5 (h + 11) = some (.inl (7, [mN, mN, mN, mN, mI 0])) := by rw [e5, ← n4]; exact al_at
  obtain ⟨s6, g6, F6, m6⟩ := c7_init a5 n5 (by rw [F5.1, F4.1, F3.1, F2.1, F1.1, F0.1]; omega)
  have n6 : sN s6 = h + 16 := by rw [F6.2.1, n5]
  have u6 : ∀ q, q < h + 11 → sH s6 q = sH s4 q := fun q hq => (F6.2.2.2.2 q hq).trans (F5.2.2.2.2 q hq)
  obtain ⟨s7, e7⟩ : ∃ s, s = mx_wr s6 h (.inl (2, [mR (h + 1), mR (h + 9), mR (h + 10), mR (h + 11), mN, mI 0, mI 0])) := ⟨_, rfl⟩
  have F7 : fa h 0 0 s6 s7 := by rw [e7]; exact fa.wr (Nat.le_refl _)
  have n7 : sN s7 = h + 16 := by rw [F7.2.1, n6]
  have w7 : sH s7 h = some (.inl (2, [mR (h + 1), mR (h + 9), mR (h + 10), mR (h + 11), mN, mI 0, mI 0])) := by rw [e7]; exact wr_at
  have u7 : ∀ q, h < q → q < h + 11 → sH s7 q = sH s4 q := fun q h1 h2 => by rw [e7, wr_ne (by omega)]; exact u6 q h2
  have g7 : isG s7 (h + 11) G0 := g6.kp (fun q q1 q2 => by rw [e7]; exact wr_ne (by omega))
  -- the dictionary
  obtain ⟨s8, e8⟩ : ∃ s, s = mx_al s7 (.inl (0, [mN, mI 0])) 2 := ⟨_, rfl⟩
  have F8 : fa (h + 16) 1 2 s7 s8 := by rw [e8]; exact fa.al (by omega)
  have n8 : sN s8 = h + 17 := by rw [F8.2.1, n7]
  have a8 : sH s8 (h + 16) = some (.inl (0, [mN, mI 0])) := by rw [e8, ← n7]; exact al_at
  obtain ⟨s9, F9, m9⟩ := c0_init a8 n8 (by rw [F8.1, F7.1, F6.1, F5.1, F4.1, F3.1, F2.1, F1.1, F0.1]; omega)
  have n9 : sN s9 = h + 34 := by rw [F9.2.1, n8]
  have u9 : ∀ q, q < h + 16 → sH s9 q = sH s7 q := fun q hq => (F9.2.2.2.2 q hq).trans (F8.2.2.2.2 q hq)
  obtain ⟨sA, eA⟩ : ∃ s, s = mx_wr s9 h (.inl (2, [mR (h + 1), mR (h + 9), mR (h + 10), mR (h + 11), mR (h + 16), mI 0, mI 0])) := ⟨_, rfl⟩
  have FA : fa h 0 0 s9 sA := by rw [eA]; exact fa.wr (Nat.le_refl _)
  have nA : sN sA = h + 34 := by rw [FA.2.1, n9]
  have wA : sH sA h = some (.inl (2, [mR (h + 1), mR (h + 9), mR (h + 10), mR (h + 11), mR (h + 16), mI 0, mI 0])) := by rw [eA]; exact wr_at
  have uA : ∀ q, h < q → q < h + 11 → sH sA q = sH s4 q := fun q h1 h2 => by rw [eA, wr_ne (by omega), u9 q (by omega)]; exact u7 q h1 h2
  have vA : isV sA (h + 1) V0 := v4.kp (fun q q1 q2 => uA q (by omega) (by omega))
  have gA : isG sA (h + 11) G0 := g7.kp (fun q q1 q2 => by rw [eA, wr_ne (by omega), u9 q (by omega)])
  have FFA : fa h 33 3733 σ sA := (((((((((F0.tr F1 (by omega) rfl rfl).tr F2 (Nat.le_refl _) rfl rfl).tr F3 (Nat.le_refl _) rfl rfl).tr F4 (Nat.le_refl _) rfl rfl).tr F5 (by omega) rfl rfl).tr F6 (by omega) rfl rfl).tr F7 (Nat.le_refl _) rfl rfl).tr F8 (by omega) rfl rfl).tr F9 (by omega) rfl rfl).tr FA (Nat.le_refl _) rfl rfl
  -- the shelves' views
  have key : ∀ (n k : Nat), k + n = 6 → ∀ (s : mx_S) (f : Nat → mx_V), sB s ≤ h → sN s = h + 34 + 8 * k → sH s h = some (.inl (2, [mR (h + 1), mR (h + 9), mR (h + 10), mR (h + 11), mR (h + 16), mI 0, mI 0])) → sH s (h + 9) = some (.inr (5, 6, f)) → (∀ i : Nat, i < k → f i = mR (h + 34 + 8 * i)) → (0 < k → isV s (h + 34) V0) →
      ∃ (s' : mx_S) (f' : Nat → mx_V), sN s' = h + 82 ∧ sH s' h = some (.inl (2, [mR (h + 1), mR (h + 9), mR (h + 10), mR (h + 11), mR (h + 16), mI 0, mI 0])) ∧ sH s' (h + 9) = some (.inr (5, 6, f')) ∧ (∀ i : Nat, i < 6 → f' i = mR (h + 34 + 8 * i)) ∧ isV s' (h + 34) V0 ∧ fa (h + 9) (8 * n) (1954 * n) s s' ∧ (∀ q, q ≠ h + 9 → q < h + 34 → sH s' q = sH s q) ∧ ∀ (kb wb : Nat) (Q : mx_R → Prop), sK s' ≤ kb → sW s' ≤ wb → mx_J Y2_init kb wb 56 [some (mR h), some (mI 6)] [] s' Q → mx_J Y2_init kb wb 56 [some (mR h), some (mI (k : Int))] [] s Q := by
    intro n
    induction n with
    | zero =>
      intro k hk s f sb sn sd sa sf sv
      refine ⟨s, f, by omega, sd, sa, fun i hi => sf i (by omega), sv (by omega), fa.rf, fun _ _ _ => rfl, fun kb wb Q _ _ K => ?_⟩
      rw [show (k : Int) = 6 by omega]
      exact K
    | succ n ih =>
      intro k hk s f sb sn sd sa sf sv
      obtain ⟨t0, q0⟩ : ∃ t, t = mx_al s (.inl (9, [mN, mN, mN, mN, mI 0, mI 0])) 6 := ⟨_, rfl⟩
      have K0 : fa (sN s) 1 6 s t0 := by rw [q0]; exact fa.al (Nat.le_refl _)
      have r0 : sH t0 (sN s) = some (.inl (9, [mN, mN, mN, mN, mI 0, mI 0])) := by rw [q0]; exact al_at
      obtain ⟨t1, x1, K1, m1⟩ := c9_init r0 K0.2.1 (by rw [K0.1]; omega)
      have u0 : ∀ q, q < sN s → sH t1 q = sH s q := fun q hq => (K1.2.2.2.2 q hq).trans (K0.2.2.2.2 q hq)
      obtain ⟨t2, q2⟩ : ∃ t, t = mx_wr t1 (h + 9) (.inr (5, 6, upV f ((k : Int)).toNat (mR (sN s)))) := ⟨_, rfl⟩
      have K2 : fa (h + 9) 0 0 t1 t2 := by rw [q2]; exact fa.wr (Nat.le_refl _)
      have K01 : fa (sN s) 8 1954 s t1 := K0.tr K1 (Nat.le_refl _) rfl rfl
      have K_ : fa (h + 9) 8 1954 s t2 := fa.tr (lo := h + 9) (⟨K01.1, K01.2.1, K01.2.2.1, K01.2.2.2.1, fun q hq => K01.2.2.2.2 q (by omega)⟩ : fa (h + 9) 8 1954 s t1) K2 (Nat.le_refl _) rfl rfl
      have u2 : ∀ q, q ≠ h + 9 → q < sN s → sH t2 q = sH s q := fun q h1 h2 => by rw [q2, wr_ne h1]; exact u0 q h2
      have y2 : isV t2 (h + 34) V0 := by
        by_cases c : k = 0
        · have e : sN s = h + 34 := by omega
          rw [e] at x1
          exact x1.kp (fun q q1 q3 => by rw [q2]; exact wr_ne (by omega))
        · exact (sv (by omega)).kp (fun q q1 q3 => u2 q (by omega) (by omega))
      obtain ⟨s', f', z1, z2, z3, z4, z5, z6, z7, z8⟩ := ih (k + 1) (by omega) t2 (upV f ((k : Int)).toNat (mR (sN s))) (by rw [K_.1]; exact sb) (by rw [K_.2.1]; omega) ((u2 h (by omega) (by omega)).trans sd) (by rw [q2]; exact wr_at) (fun i hi => by
        unfold upV
        rw [Int.toNat_natCast]
        by_cases c : i = k
        · rw [if_pos c, c, sn]
        · rw [if_neg c]
          exact sf i (by omega)) (fun _ => y2)
      refine ⟨s', f', z1, z2, z3, z4, z5, K_.tr z6 (Nat.le_refl _) (by omega) (by omega), fun q h1 h2 => (z7 q h1 h2).trans (u2 q h1 (by omega)), fun kb wb Q hk9 hw9 K => ?_⟩
      have x1' := z6.2.2.1
      have x2' := z6.2.2.2.1
      have x3' := K_.2.2.1
      have x4' := K_.2.2.2.1
      have x5' := K01.2.2.1
      have x6' := K01.2.2.2.1
      refine B_Y2_init_56 ⟨_, sd, _, rfl, _, _, _, sa, fun c => absurd c (by omega), fun _ => ⟨_, sd, _, rfl, by omega, by omega, fun σ9 a10 p9 p10 => ?_⟩⟩
      have p9 := p9.trans q0.symm
      subst p9 p10
      refine ⟨t1, m1, by omega, by omega, _, _, _, (u0 _ (by omega)).trans sa, by rw [K01.1]; omega, by omega, by omega, x1.1, fun σ13 p13 => ?_⟩
      have p13 := p13.trans q2.symm
      subst p13
      rw [mx_w_id (x := (k : Int) + 1) (by omega) (by omega)]
      exact z8 kb wb Q hk9 hw9 K
  obtain ⟨sB_, fB, z1, z2, z3, z4, z5, z6, z7, z8⟩ := key 6 0 rfl sA (fun _ => mN) (by rw [FFA.1]; exact hb) nA wA ((uA _ (by omega) (by omega)).trans b4) (fun i hi => absurd hi (by omega)) (fun c => absurd c (by omega))
  have cB : sH sB_ (h + 10) = some (.inr (0, 6, fun j => mI (z0 j))) := ((z7 _ (by omega) (by omega)).trans (uA _ (by omega) (by omega))).trans c4
  obtain ⟨sC, hC, FC, mC⟩ := cJ_fill cB (by rw [z6.1, FFA.1]; omega) (by decide) (-1)
  have F : fa h 81 15457 σ sC := (FFA.tr z6 (by omega) rfl rfl).tr (fa.fr FC (lo := h) (by omega)) (Nat.le_refl _) rfl rfl
  refine ⟨sC, ⟨(FC.at (by omega)).trans z2, vA.kp (fun q q1 q2 => (FC.at (by omega)).trans (z7 q (by omega) (by omega))), z5.kp (fun q q1 q2 => FC.at (by omega)), ⟨fB, (FC.at (by omega)).trans z3, z4⟩, hC, gA.kp (fun q q1 q2 => (FC.at (by omega)).trans (z7 q (by omega) (by omega)))⟩, F, ?_⟩
  refine mx_retE (by decide) rfl (Nat.le_of_ble_eq_true rfl) F.1 (by rw [F.2.2.1]; omega) (by rw [F.2.2.2.1]; omega) fun kb wb Q hk hw hQ => ?_
  have hkC := hk
  have hwC := hw
  have yC := FC.2.2.1
  have yD := FC.2.2.2.1
  have yA := FFA.2.2.1
  have yB := FFA.2.2.2.1
  have xA := z6.2.2.1
  have xB := z6.2.2.2.1
  rw [F.2.2.1] at hk
  rw [F.2.2.2.1] at hw
  have k0 := F0.2.2.1
  have l0 := F0.2.2.2.1
  have k1 := F1.2.2.1
  have l1 := F1.2.2.2.1
  have k2 := F2.2.2.1
  have l2 := F2.2.2.2.1
  have k3 := F3.2.2.1
  have l3 := F3.2.2.2.1
  have k4 := F4.2.2.1
  have l4 := F4.2.2.2.1
  have k5 := F5.2.2.1
  have l5 := F5.2.2.2.1
  have k6 := F6.2.2.1
  have l6 := F6.2.2.2.1
  have k7 := F7.2.2.1
  have l7 := F7.2.2.2.1
  have k8 := F8.2.2.1
  have l8 := F8.2.2.2.1
  have k9 := F9.2.2.1
  have l9 := F9.2.2.2.1
  refine B_Y2_init_0 ⟨by omega, by omega, fun σ1 a q1 qa => ?_⟩
  have q1 := q1.trans e0.symm
  rw [hn] at qa
  subst q1 qa
  refine ⟨s1, m1, by omega, by omega, _, w1, Nat.le_of_ble_eq_true rfl, by rw [F1.1, F0.1]; exact hb, fun σ2 q2 => ?_⟩
  have q2 := q2.trans e2.symm
  subst q2
  refine ⟨by decide, by decide, by omega, by show sW _ + 6 ≤ wb; omega, fun σ3 a q3 qa => ?_⟩
  subst q3 qa
  refine ⟨_, (al_ne (by omega)).trans w2, Nat.le_of_ble_eq_true rfl, by rw [show sB (mx_al _ _ _) = _ from F2.1, F1.1, F0.1]; exact hb, fun σ4 q4 => ?_⟩
  rw [n2] at q4
  have q4 := q4.trans e3.symm
  subst q4
  refine ⟨by decide, by decide, by omega, by show sW _ + 6 ≤ wb; omega, fun σ5 a q5 qa => ?_⟩
  subst q5 qa
  refine ⟨_, (al_ne (by omega)).trans w3, Nat.le_of_ble_eq_true rfl, by rw [show sB (mx_al _ _ _) = _ from F3.1, F2.1, F1.1, F0.1]; exact hb, fun σ6 q6 => ?_⟩
  rw [n3] at q6
  have q6 := q6.trans e4.symm
  subst q6
  refine ⟨by omega, by omega, fun σ7 a q7 qa => ?_⟩
  have q7 := q7.trans e5.symm
  rw [n4] at qa
  subst q7 qa
  refine ⟨s6, m6, by omega, by omega, _, (u6 h (by omega)).trans w4, Nat.le_of_ble_eq_true rfl, by rw [F6.1, F5.1, F4.1, F3.1, F2.1, F1.1, F0.1]; exact hb, fun σ8 q8 => ?_⟩
  have q8 := q8.trans e7.symm
  subst q8
  refine ⟨by omega, by omega, fun σ9 a q9 qa => ?_⟩
  have q9 := q9.trans e8.symm
  rw [n7] at qa
  subst q9 qa
  refine ⟨s9, m9, by omega, by omega, _, (u9 h (by omega)).trans w7, Nat.le_of_ble_eq_true rfl, by rw [F9.1, F8.1, F7.1, F6.1, F5.1, F4.1, F3.1, F2.1, F1.1, F0.1]; exact hb, fun σ10 q10 => ?_⟩
  have q10 := q10.trans eA.symm
  subst q10
  refine z8 kb wb Q (by omega) (by omega) ?_
  exact B_Y2_init_56 ⟨_, z2, _, rfl, _, _, _, z3, fun _ => ⟨_, z2, _, rfl, sC, mC, hkC, hwC, hQ⟩, fun c => absurd (by decide) c⟩
theorem c5_init {σ : mx_S} {t : Nat} (h : sH σ t = some (.inl (5, [mN, mN, mI 0, mI 0, mI 0, mI 0]))) (hn : sN σ = t + 1) (hb : sB σ ≤ t) : ∃ σ' : mx_S, fa t 2 25 σ σ' ∧ mx_MS Y5_init [mR t] σ (.inl (none, σ')) := by
  obtain ⟨s1, e1⟩ : ∃ s, s = mx_wr (mx_al σ (.inr (0, 20, fun _ => mI 0)) 20) t (.inl (5, [mR (t + 1), mN, mI 0, mI 0, mI 0, mI 0])) := ⟨_, rfl⟩
  have F1 : fa t 1 20 σ s1 := by rw [e1]; exact (fa.al (by omega)).tr (fa.wr (Nat.le_refl _)) (Nat.le_refl _) rfl rfl
  have n1 : sN s1 = t + 2 := by rw [F1.2.1, hn]
  have a1 : sH s1 t = some (.inl (5, [mR (t + 1), mN, mI 0, mI 0, mI 0, mI 0])) := by rw [e1]; exact wr_at
  obtain ⟨s2, e2⟩ : ∃ s, s = mx_wr (mx_al s1 (.inr (0, 5, fun _ => mI 0)) 5) t (.inl (5, [mR (t + 1), mR (t + 2), mI 0, mI 0, mI 0, mI 0])) := ⟨_, rfl⟩
  have F2 : fa t 1 5 s1 s2 := by rw [e2]; exact (fa.al (by omega)).tr (fa.wr (Nat.le_refl _)) (Nat.le_refl _) rfl rfl
  have F : fa t 2 25 σ s2 := F1.tr F2 (Nat.le_refl _) rfl rfl
  refine ⟨s2, F, ?_⟩
  refine mx_retE (by decide) rfl (Nat.le_of_ble_eq_true rfl) F.1 (by rw [F.2.2.1]; omega) (by rw [F.2.2.2.1]; omega) fun kb wb Q hk hw hQ => ?_
  have y1 := F.2.2.1
  have y2 := F.2.2.2.1
  have k1 := F1.2.2.1
  have w1 := F1.2.2.2.1
  refine B_Y5_init_0 ⟨by decide, by decide, by omega, by show sW σ + 20 ≤ wb; omega, fun σ1 a q1 qa => ?_⟩
  subst q1 qa
  refine ⟨_, (al_ne (by omega)).trans h, Nat.le_of_ble_eq_true rfl, hb, fun σ2 q2 => ?_⟩
  rw [hn] at q2
  have q2 := q2.trans e1.symm
  subst q2
  refine ⟨by decide, by decide, by omega, by show sW _ + 5 ≤ wb; omega, fun σ3 a q3 qa => ?_⟩
  subst q3 qa
  refine ⟨_, (al_ne (by omega)).trans a1, Nat.le_of_ble_eq_true rfl, by rw [show sB (mx_al _ _ _) = _ from F1.1]; exact hb, fun σ4 q4 => ?_⟩
  rw [n1] at q4
  have q4 := q4.trans e2.symm
  subst q4
  exact hQ
theorem c3_init {σ : mx_S} {t : Nat} (h : sH σ t = some (.inl (3, [mN, mI 0, mI 0]))) (hn : sN σ = t + 1) (hb : sB σ ≤ t) : ∃ σ' : mx_S, fa t 1 40 σ σ' ∧ mx_MS Y3_init [mR t] σ (.inl (none, σ')) := by
  obtain ⟨s1, e1⟩ : ∃ s, s = mx_wr (mx_al σ (.inr (0, 40, fun _ => mI 0)) 40) t (.inl (3, [mR (t + 1), mI 0, mI 0])) := ⟨_, rfl⟩
  have F : fa t 1 40 σ s1 := by rw [e1]; exact (fa.al (by omega)).tr (fa.wr (Nat.le_refl _)) (Nat.le_refl _) rfl rfl
  refine ⟨s1, F, ?_⟩
  refine mx_retE (by decide) rfl (Nat.le_of_ble_eq_true rfl) F.1 (by rw [F.2.2.1]; omega) (by rw [F.2.2.2.1]; omega) fun kb wb Q hk hw hQ => ?_
  have y1 := F.2.2.1
  have y2 := F.2.2.2.1
  refine B_Y3_init_0 ⟨by decide, by decide, by omega, by show sW σ + 40 ≤ wb; omega, fun σ1 a q1 qa => ?_⟩
  subst q1 qa
  refine ⟨_, (al_ne (by omega)).trans h, Nat.le_of_ble_eq_true rfl, hb, fun σ2 q2 => ?_⟩
  rw [hn] at q2
  have q2 := q2.trans e1.symm
  subst q2
  exact hQ
theorem c4_init {σ : mx_S} {t : Nat} (h : sH σ t = some (.inl (4, [mN, mN, mN, mI 0, mI 0, mI 0]))) (hn : sN σ = t + 1) (hb : sB σ ≤ t) : ∃ σ' : mx_S, fa t 3 120 σ σ' ∧ mx_MS Y4_init [mR t] σ (.inl (none, σ')) := by
  obtain ⟨s1, e1⟩ : ∃ s, s = mx_wr (mx_al σ (.inr (0, 40, fun _ => mI 0)) 40) t (.inl (4, [mR (t + 1), mN, mN, mI 0, mI 0, mI 0])) := ⟨_, rfl⟩
  have F1 : fa t 1 40 σ s1 := by rw [e1]; exact (fa.al (by omega)).tr (fa.wr (Nat.le_refl _)) (Nat.le_refl _) rfl rfl
  have n1 : sN s1 = t + 2 := by rw [F1.2.1, hn]
  have a1 : sH s1 t = some (.inl (4, [mR (t + 1), mN, mN, mI 0, mI 0, mI 0])) := by rw [e1]; exact wr_at
  obtain ⟨s2, e2⟩ : ∃ s, s = mx_wr (mx_al s1 (.inr (0, 40, fun _ => mI 0)) 40) t (.inl (4, [mR (t + 1), mR (t + 2), mN, mI 0, mI 0, mI 0])) := ⟨_, rfl⟩
  have F2 : fa t 1 40 s1 s2 := by rw [e2]; exact (fa.al (by omega)).tr (fa.wr (Nat.le_refl _)) (Nat.le_refl _) rfl rfl
  have n2 : sN s2 = t + 3 := by rw [F2.2.1, n1]
  have a2 : sH s2 t = some (.inl (4, [mR (t + 1), mR (t + 2), mN, mI 0, mI 0, mI 0])) := by rw [e2]; exact wr_at
  obtain ⟨s3, e3⟩ : ∃ s, s = mx_wr (mx_al s2 (.inr (0, 40, fun _ => mI 0)) 40) t (.inl (4, [mR (t + 1), mR (t + 2), mR (t + 3), mI 0, mI 0, mI 0])) := ⟨_, rfl⟩
  have F3 : fa t 1 40 s2 s3 := by rw [e3]; exact (fa.al (by omega)).tr (fa.wr (Nat.le_refl _)) (Nat.le_refl _) rfl rfl
  have F : fa t 3 120 σ s3 := (F1.tr F2 (Nat.le_refl _) rfl rfl).tr F3 (Nat.le_refl _) rfl rfl
  refine ⟨s3, F, ?_⟩
  refine mx_retE (by decide) rfl (Nat.le_of_ble_eq_true rfl) F.1 (by rw [F.2.2.1]; omega) (by rw [F.2.2.2.1]; omega) fun kb wb Q hk hw hQ => ?_
  have y1 := F.2.2.1
  have y2 := F.2.2.2.1
  have k1 := F1.2.2.1
  have w1 := F1.2.2.2.1
  have k2 := F2.2.2.1
  have w2 := F2.2.2.2.1
  refine B_Y4_init_0 ⟨by decide, by decide, by omega, by show sW σ + 40 ≤ wb; omega, fun σ1 a q1 qa => ?_⟩
  subst q1 qa
  refine ⟨_, (al_ne (by omega)).trans h, Nat.le_of_ble_eq_true rfl, hb, fun σ2 q2 => ?_⟩
  rw [hn] at q2
  have q2 := q2.trans e1.symm
  subst q2
  refine ⟨by decide, by decide, by omega, by show sW _ + 40 ≤ wb; omega, fun σ3 a q3 qa => ?_⟩
  subst q3 qa
  refine ⟨_, (al_ne (by omega)).trans a1, Nat.le_of_ble_eq_true rfl, by rw [show sB (mx_al _ _ _) = _ from F1.1]; exact hb, fun σ4 q4 => ?_⟩
  rw [n1] at q4
  have q4 := q4.trans e2.symm
  subst q4
  refine ⟨by decide, by decide, by omega, by show sW _ + 40 ≤ wb; omega, fun σ5 a q5 qa => ?_⟩
  subst q5 qa
  refine ⟨_, (al_ne (by omega)).trans a2, Nat.le_of_ble_eq_true rfl, by rw [show sB (mx_al _ _ _) = _ from F2.1, F1.1]; exact hb, fun σ6 q6 => ?_⟩
  rw [n2] at q6
  have q6 := q6.trans e3.symm
  subst q6
  exact hQ
theorem c1_init {σ : mx_S} {t : Nat} (h : sH σ t = some (.inl (1, [mN, mN, mN, mI 0, mI 0]))) (hn : sN σ = t + 1) (hb : sB σ ≤ t) : ∃ σ' : mx_S, fa t 44 1802 σ σ' ∧ mx_MS Y1_init [mR t] σ (.inl (none, σ')) := by
  obtain ⟨s1, e1⟩ : ∃ s, s = mx_wr (mx_al σ (.inr (1, 40, fun _ => mI 0)) 40) t (.inl (1, [mR (t + 1), mN, mN, mI 0, mI 0])) := ⟨_, rfl⟩
  have F1 : fa t 1 40 σ s1 := by rw [e1]; exact (fa.al (by omega)).tr (fa.wr (Nat.le_refl _)) (Nat.le_refl _) rfl rfl
  have n1 : sN s1 = t + 2 := by rw [F1.2.1, hn]
  have a1 : sH s1 t = some (.inl (1, [mR (t + 1), mN, mN, mI 0, mI 0])) := by rw [e1]; exact wr_at
  obtain ⟨s2, e2⟩ : ∃ s, s = mx_wr (mx_al s1 (.inr (1, 40, fun _ => mI 0)) 40) t (.inl (1, [mR (t + 1), mR (t + 2), mN, mI 0, mI 0])) := ⟨_, rfl⟩
  have F2 : fa t 1 40 s1 s2 := by rw [e2]; exact (fa.al (by omega)).tr (fa.wr (Nat.le_refl _)) (Nat.le_refl _) rfl rfl
  have n2 : sN s2 = t + 3 := by rw [F2.2.1, n1]
  have a2 : sH s2 t = some (.inl (1, [mR (t + 1), mR (t + 2), mN, mI 0, mI 0])) := by rw [e2]; exact wr_at
  obtain ⟨s3, e3⟩ : ∃ s, s = mx_wr (mx_alm s2 42 1722) t (.inl (1, [mR (t + 1), mR (t + 2), mR (t + 3), mI 0, mI 0])) := ⟨_, rfl⟩
  have F3 : fa t 42 1722 s2 s3 := by rw [e3]; exact ⟨rfl, rfl, rfl, rfl, fun q hq => wr_ne (σ := mx_alm s2 42 1722) (by omega)⟩
  have F : fa t 44 1802 σ s3 := (F1.tr F2 (Nat.le_refl _) rfl rfl).tr F3 (Nat.le_refl _) rfl rfl
  refine ⟨s3, F, ?_⟩
  refine mx_retE (by decide) rfl (Nat.le_of_ble_eq_true rfl) F.1 (by rw [F.2.2.1]; omega) (by rw [F.2.2.2.1]; omega) fun kb wb Q hk hw hQ => ?_
  have y1 := F.2.2.1
  have y2 := F.2.2.2.1
  have k1 := F1.2.2.1
  have w1 := F1.2.2.2.1
  have k2 := F2.2.2.1
  have w2 := F2.2.2.2.1
  refine B_Y1_init_0 ⟨by decide, by decide, by omega, by show sW σ + 40 ≤ wb; omega, fun σ1 a q1 qa => ?_⟩
  subst q1 qa
  refine ⟨_, (al_ne (by omega)).trans h, Nat.le_of_ble_eq_true rfl, hb, fun σ2 q2 => ?_⟩
  rw [hn] at q2
  have q2 := q2.trans e1.symm
  subst q2
  refine ⟨by decide, by decide, by omega, by show sW _ + 40 ≤ wb; omega, fun σ3 a q3 qa => ?_⟩
  subst q3 qa
  refine ⟨_, (al_ne (by omega)).trans a1, Nat.le_of_ble_eq_true rfl, by rw [show sB (mx_al _ _ _) = _ from F1.1]; exact hb, fun σ4 q4 => ?_⟩
  rw [n1] at q4
  have q4 := q4.trans e2.symm
  subst q4
  refine ⟨by decide, by decide, by decide, by decide, by show sK _ + 42 ≤ kb; omega, by show sW _ + 1722 ≤ wb; omega, fun σ5 a q5 qa => ?_⟩
  have q5 : σ5 = mx_alm _ 42 1722 := q5
  subst q5 qa
  refine ⟨_, a2, Nat.le_of_ble_eq_true rfl, by rw [show sB (mx_alm _ _ _) = _ from F2.1, F1.1]; exact hb, fun σ6 q6 => ?_⟩
  rw [n2] at q6
  have q6 := q6.trans e3.symm
  subst q6
  exact hQ
