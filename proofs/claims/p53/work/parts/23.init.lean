/-! New objects. -/
/-- n cells of w slots are new, all below lo is as it was -/
def fa (lo n w : Nat) (σ σ' : mx_S) : Prop := sB σ' = sB σ ∧ sN σ' = sN σ + n ∧ sK σ' = sK σ + n ∧ sW σ' = sW σ + w ∧ ∀ q : Nat, q < lo → sH σ' q = sH σ q
theorem fa.rf {lo : Nat} {σ : mx_S} : fa lo 0 0 σ σ := ⟨rfl, rfl, rfl, rfl, fun _ _ => rfl⟩
theorem fa.tr {lo lo' a b c d n w : Nat} {x y z : mx_S} (h : fa lo a c x y) (g : fa lo' b d y z) (hl : lo ≤ lo') (hn : n = a + b) (hw : w = c + d) : fa lo n w x z := by
  obtain ⟨h1, h2, h3, h4, h5⟩ := h
  obtain ⟨g1, g2, g3, g4, g5⟩ := g
  exact ⟨g1.trans h1, by omega, by omega, by omega, fun q hq => (g5 q (by omega)).trans (h5 q hq)⟩
theorem fa.wr {lo a : Nat} {σ : mx_S} {e : mx_E} (h : lo ≤ a) : fa lo 0 0 σ (mx_wr σ a e) := ⟨rfl, rfl, rfl, rfl, fun q hq => wr_ne (by omega)⟩
theorem fa.al {lo w : Nat} {σ : mx_S} {e : mx_E} (h : lo ≤ sN σ) : fa lo 1 w σ (mx_al σ e w) := ⟨rfl, rfl, rfl, rfl, fun q hq => al_ne (by omega)⟩
theorem fa.fr {lo hi b : Nat} {σ σ' : mx_S} (h : fr b hi σ σ') (hl : lo ≤ b) : fa lo 0 0 σ σ' := ⟨h.1, h.2.1, h.2.2.1, h.2.2.2.1, fun q hq => h.2.2.2.2 q (by omega)⟩
abbrev z0 : Nat → Int := fun _ => 0
abbrev R0 : mt_R := (0, z0)
abbrev T0 : mt_T := (0, z0, z0, z0)
abbrev V0 : mt_V := (T0, 0, 0, z0, z0, z0)
theorem c6_init {σ : mx_S} {r : Nat} (h : sH σ r = some (.inl (6, [mN, mI 0]))) (hn : sN σ = r + 1) (hb : sB σ ≤ r) : ∃ σ' : mx_S, isR σ' r R0 ∧ fa r 1 20 σ σ' ∧ mx_MS Y6_init [mR r] σ (.inl (none, σ')) := by
  have F : fa r 1 20 σ (mx_wr (mx_al σ (.inr (1, 20, fun _ => mI 0)) 20) r (.inl (6, [mR (r + 1), mI 0]))) := (fa.al (by omega)).tr (fa.wr (Nat.le_refl _)) (Nat.le_refl _) rfl rfl
  refine ⟨mx_wr (mx_al σ (.inr (1, 20, fun _ => mI 0)) 20) r (.inl (6, [mR (r + 1), mI 0])), ⟨wr_at, (wr_ne (by omega)).trans (by rw [← hn]; exact al_at)⟩, F, ?_⟩
  refine mx_retE (by decide) rfl (Nat.le_of_ble_eq_true rfl) F.1 (by rw [F.2.2.1]; omega) (by rw [F.2.2.2.1]; omega) fun kb wb Q hk hw hQ => ?_
  rw [F.2.2.1] at hk
  rw [F.2.2.2.1] at hw
  refine B_Y6_init_0 ⟨by decide, by decide, hk, hw, fun σ1 a e1 ea => ?_⟩
  subst e1 ea
  refine ⟨_, (al_ne (by omega)).trans h, Nat.le_of_ble_eq_true rfl, hb, fun σ2 e2 => ?_⟩
  rw [hn] at e2
  subst e2
  exact hQ
theorem c8_init {σ : mx_S} {t : Nat} (h : sH σ t = some (.inl (8, [mN, mN, mN, mI 0]))) (hn : sN σ = t + 1) (hb : sB σ ≤ t) : ∃ σ' : mx_S, isT σ' t T0 ∧ fa t 3 504 σ σ' ∧ mx_MS Y8_init [mR t] σ (.inl (none, σ')) := by
  obtain ⟨s1, e1⟩ : ∃ s, s = mx_wr (mx_al σ (.inr (0, 12, fun _ => mI 0)) 12) t (.inl (8, [mR (t + 1), mN, mN, mI 0])) := ⟨_, rfl⟩
  have F1 : fa t 1 12 σ s1 := by rw [e1]; exact (fa.al (by omega)).tr (fa.wr (Nat.le_refl _)) (Nat.le_refl _) rfl rfl
  have n1 : sN s1 = t + 2 := by rw [F1.2.1, hn]
  have a1 : sH s1 t = some (.inl (8, [mR (t + 1), mN, mN, mI 0])) := by rw [e1]; exact wr_at
  have b1 : sH s1 (t + 1) = some (.inr (0, 12, fun _ => mI 0)) := by rw [e1, wr_ne (by omega), ← hn]; exact al_at
  obtain ⟨s2, e2⟩ : ∃ s, s = mx_wr (mx_al s1 (.inr (0, 12, fun _ => mI 0)) 12) t (.inl (8, [mR (t + 1), mR (t + 2), mN, mI 0])) := ⟨_, rfl⟩
  have F2 : fa t 1 12 s1 s2 := by rw [e2]; exact (fa.al (by omega)).tr (fa.wr (Nat.le_refl _)) (Nat.le_refl _) rfl rfl
  have n2 : sN s2 = t + 3 := by rw [F2.2.1, n1]
  have a2 : sH s2 t = some (.inl (8, [mR (t + 1), mR (t + 2), mN, mI 0])) := by rw [e2]; exact wr_at
  have b2 : sH s2 (t + 1) = some (.inr (0, 12, fun _ => mI 0)) := by rw [e2, wr_ne (by omega), al_ne (by omega)]; exact b1
  have c2 : sH s2 (t + 2) = some (.inr (0, 12, fun _ => mI 0)) := by rw [e2, wr_ne (by omega), ← n1]; exact al_at
  obtain ⟨s3, e3⟩ : ∃ s, s = mx_wr (mx_al s2 (.inr (1, 480, fun _ => mI 0)) 480) t (.inl (8, [mR (t + 1), mR (t + 2), mR (t + 3), mI 0])) := ⟨_, rfl⟩
  have F3 : fa t 1 480 s2 s3 := by rw [e3]; exact (fa.al (by omega)).tr (fa.wr (Nat.le_refl _)) (Nat.le_refl _) rfl rfl
  have F : fa t 3 504 σ s3 := (F1.tr F2 (Nat.le_refl _) rfl rfl).tr F3 (Nat.le_refl _) rfl rfl
  refine ⟨s3, ⟨by rw [e3]; exact wr_at, ?_, ?_, ?_⟩, F, ?_⟩
  · rw [e3, wr_ne (by omega), al_ne (by omega)]; exact b2
  · rw [e3, wr_ne (by omega), al_ne (by omega)]; exact c2
  · rw [e3, wr_ne (by omega), ← n2]; exact al_at
  refine mx_retE (by decide) rfl (Nat.le_of_ble_eq_true rfl) F.1 (by rw [F.2.2.1]; omega) (by rw [F.2.2.2.1]; omega) fun kb wb Q hk hw hQ => ?_
  rw [F.2.2.1] at hk
  rw [F.2.2.2.1] at hw
  have k1 := F1.2.2.1
  have w1 := F1.2.2.2.1
  have k2 := F2.2.2.1
  have w2 := F2.2.2.2.1
  refine B_Y8_init_0 ⟨by decide, by decide, by omega, by show sW σ + 12 ≤ wb; omega, fun σ1 a q1 qa => ?_⟩
  subst q1 qa
  refine ⟨_, (al_ne (by omega)).trans h, Nat.le_of_ble_eq_true rfl, hb, fun σ2 q2 => ?_⟩
  rw [hn] at q2
  have q2 := q2.trans e1.symm
  subst q2
  refine ⟨by decide, by decide, by omega, by show sW _ + 12 ≤ wb; omega, fun σ3 a q3 qa => ?_⟩
  subst q3 qa
  refine ⟨_, (al_ne (by omega)).trans a1, Nat.le_of_ble_eq_true rfl, by rw [show sB (mx_al _ _ _) = _ from F1.1]; exact hb, fun σ4 q4 => ?_⟩
  rw [n1] at q4
  have q4 := q4.trans e2.symm
  subst q4
  refine ⟨by decide, by decide, by omega, by show sW _ + 480 ≤ wb; omega, fun σ5 a q5 qa => ?_⟩
  subst q5 qa
  refine ⟨_, (al_ne (by omega)).trans a2, Nat.le_of_ble_eq_true rfl, by rw [show sB (mx_al _ _ _) = _ from F2.1, F1.1]; exact hb, fun σ6 q6 => ?_⟩
  rw [n2] at q6
  have q6 := q6.trans e3.symm
  subst q6
  exact hQ
theorem c9_init {σ : mx_S} {v : Nat} (h : sH σ v = some (.inl (9, [mN, mN, mN, mN, mI 0, mI 0]))) (hn : sN σ = v + 1) (hb : sB σ ≤ v) : ∃ σ' : mx_S, isV σ' v V0 ∧ fa v 7 1948 σ σ' ∧ mx_MS Y9_init [mR v] σ (.inl (none, σ')) := by
  obtain ⟨s0, e0⟩ : ∃ s, s = mx_al σ (.inl (8, [mN, mN, mN, mI 0])) 4 := ⟨_, rfl⟩
  have F0 : fa v 1 4 σ s0 := by rw [e0]; exact fa.al (by omega)
  have n0 : sN s0 = v + 2 := by rw [F0.2.1, hn]
  have a0 : sH s0 (v + 1) = some (.inl (8, [mN, mN, mN, mI 0])) := by rw [e0, ← hn]; exact al_at
  obtain ⟨s1, t1, F1, m1⟩ := c8_init (t := v + 1) a0 n0 (by rw [F0.1]; omega)
  have n1 : sN s1 = v + 5 := by rw [F1.2.1, n0]
  have v1 : sH s1 v = some (.inl (9, [mN, mN, mN, mN, mI 0, mI 0])) := by rw [F1.2.2.2.2 v (by omega), e0, al_ne (by omega)]; exact h
  obtain ⟨s2, e2⟩ : ∃ s, s = mx_wr s1 v (.inl (9, [mR (v + 1), mN, mN, mN, mI 0, mI 0])) := ⟨_, rfl⟩
  have F2 : fa v 0 0 s1 s2 := by rw [e2]; exact fa.wr (Nat.le_refl _)
  have n2 : sN s2 = v + 5 := by rw [F2.2.1, n1]
  have v2 : sH s2 v = some (.inl (9, [mR (v + 1), mN, mN, mN, mI 0, mI 0])) := by rw [e2]; exact wr_at
  have t2 : isT s2 (v + 1) T0 := t1.kp (fun q q1 q2 => by rw [e2]; exact wr_ne (by omega))
  obtain ⟨s3, e3⟩ : ∃ s, s = mx_wr (mx_al s2 (.inr (0, 480, fun _ => mI 0)) 480) v (.inl (9, [mR (v + 1), mR (v + 5), mN, mN, mI 0, mI 0])) := ⟨_, rfl⟩
  have F3 : fa v 1 480 s2 s3 := by rw [e3]; exact (fa.al (by omega)).tr (fa.wr (Nat.le_refl _)) (Nat.le_refl _) rfl rfl
  have n3 : sN s3 = v + 6 := by rw [F3.2.1, n2]
  have v3 : sH s3 v = some (.inl (9, [mR (v + 1), mR (v + 5), mN, mN, mI 0, mI 0])) := by rw [e3]; exact wr_at
  have b3 : sH s3 (v + 5) = some (.inr (0, 480, fun _ => mI 0)) := by rw [e3, wr_ne (by omega), ← n2]; exact al_at
  have t3 : isT s3 (v + 1) T0 := t2.kp (fun q q1 q2 => by rw [e3, wr_ne (by omega), al_ne (by omega)])
  obtain ⟨s4, e4⟩ : ∃ s, s = mx_wr (mx_al s3 (.inr (0, 480, fun _ => mI 0)) 480) v (.inl (9, [mR (v + 1), mR (v + 5), mR (v + 6), mN, mI 0, mI 0])) := ⟨_, rfl⟩
  have F4 : fa v 1 480 s3 s4 := by rw [e4]; exact (fa.al (by omega)).tr (fa.wr (Nat.le_refl _)) (Nat.le_refl _) rfl rfl
  have n4 : sN s4 = v + 7 := by rw [F4.2.1, n3]
  have v4 : sH s4 v = some (.inl (9, [mR (v + 1), mR (v + 5), mR (v + 6), mN, mI 0, mI 0])) := by rw [e4]; exact wr_at
  have b4 : sH s4 (v + 5) = some (.inr (0, 480, fun _ => mI 0)) := by rw [e4, wr_ne (by omega), al_ne (by omega)]; exact b3
  have c4 : sH s4 (v + 6) = some (.inr (0, 480, fun _ => mI 0)) := by rw [e4, wr_ne (by omega), ← n3]; exact al_at
  have t4 : isT s4 (v + 1) T0 := t3.kp (fun q q1 q2 => by rw [e4, wr_ne (by omega), al_ne (by omega)])
  obtain ⟨s5, e5⟩ : ∃ s, s = mx_wr (mx_al s4 (.inr (0, 480, fun _ => mI 0)) 480) v (.inl (9, [mR (v + 1), mR (v + 5), mR (v + 6), mR (v + 7), mI 0, mI 0])) := ⟨_, rfl⟩
  have F5 : fa v 1 480 s4 s5 := by rw [e5]; exact (fa.al (by omega)).tr (fa.wr (Nat.le_refl _)) (Nat.le_refl _) rfl rfl
  have F : fa v 7 1948 σ s5 := ((((F0.tr F1 (by omega) rfl rfl).tr F2 (Nat.le_refl _) rfl rfl).tr F3 (Nat.le_refl _) rfl rfl).tr F4 (Nat.le_refl _) rfl rfl).tr F5 (Nat.le_refl _) rfl rfl
  refine ⟨s5, ⟨by rw [e5]; exact wr_at, t4.kp (fun q q1 q2 => by rw [e5, wr_ne (by omega), al_ne (by omega)]), ?_, ?_, ?_⟩, F, ?_⟩
  · rw [e5, wr_ne (by omega), al_ne (by omega)]; exact b4
  · rw [e5, wr_ne (by omega), al_ne (by omega)]; exact c4
  · rw [e5, wr_ne (by omega), ← n4]; exact al_at
  refine mx_retE (by decide) rfl (Nat.le_of_ble_eq_true rfl) F.1 (by rw [F.2.2.1]; omega) (by rw [F.2.2.2.1]; omega) fun kb wb Q hk hw hQ => ?_
  rw [F.2.2.1] at hk
  rw [F.2.2.2.1] at hw
  have k0 := F0.2.2.1
  have w0 := F0.2.2.2.1
  have k1 := F1.2.2.1
  have w1 := F1.2.2.2.1
  have k2 := F2.2.2.1
  have w2 := F2.2.2.2.1
  have k3 := F3.2.2.1
  have w3 := F3.2.2.2.1
  have k4 := F4.2.2.1
  have w4 := F4.2.2.2.1
  refine B_Y9_init_0 ⟨by omega, by omega, fun σ1 a q1 qa => ?_⟩
  have q1 := q1.trans e0.symm
  rw [hn] at qa
  subst q1 qa
  refine ⟨s1, m1, by omega, by omega, _, v1, Nat.le_of_ble_eq_true rfl, by rw [F1.1, F0.1]; exact hb, fun σ2 q2 => ?_⟩
  have q2 := q2.trans e2.symm
  subst q2
  refine ⟨by decide, by decide, by omega, by show sW _ + 480 ≤ wb; omega, fun σ3 a q3 qa => ?_⟩
  subst q3 qa
  refine ⟨_, (al_ne (by omega)).trans v2, Nat.le_of_ble_eq_true rfl, by rw [show sB (mx_al _ _ _) = _ from F2.1, F1.1, F0.1]; exact hb, fun σ4 q4 => ?_⟩
  rw [n2] at q4
  have q4 := q4.trans e3.symm
  subst q4
  refine ⟨by decide, by decide, by omega, by show sW _ + 480 ≤ wb; omega, fun σ5 a q5 qa => ?_⟩
  subst q5 qa
  refine ⟨_, (al_ne (by omega)).trans v3, Nat.le_of_ble_eq_true rfl, by rw [show sB (mx_al _ _ _) = _ from F3.1, F2.1, F1.1, F0.1]; exact hb, fun σ6 q6 => ?_⟩
  rw [n3] at q6
  have q6 := q6.trans e4.symm
  subst q6
  refine ⟨by decide, by decide, by omega, by show sW _ + 480 ≤ wb; omega, fun σ7 a q7 qa => ?_⟩
  subst q7 qa
  refine ⟨_, (al_ne (by omega)).trans v4, Nat.le_of_ble_eq_true rfl, by rw [show sB (mx_al _ _ _) = _ from F4.1, F3.1, F2.1, F1.1, F0.1]; exact hb, fun σ8 q8 => ?_⟩
  rw [n4] at q8
  have q8 := q8.trans e5.symm
  subst q8
  exact hQ
theorem cJ_fill {σ : mx_S} {a n : Nat} {g : Nat → Int} (h : sH σ a = some (.inr (0, n, fun j => mI (g j)))) (hb : sB σ ≤ a) (hn : n ≤ 100000) (x : Int) : ∃ σ' : mx_S, sH σ' a = some (.inr (0, n, fun j => mI (if j < n then x else g j))) ∧ fr a (a + 1) σ σ' ∧ mx_MS YJ7_fill_53178 [mR a, mI x] σ (.inl (none, σ')) := by
  have key : ∀ (m i : Nat), i + m = n → ∀ s : mx_S, sB s ≤ a → sH s a = some (.inr (0, n, fun j => mI (if j < i then x else g j))) → ∃ s' : mx_S, sH s' a = some (.inr (0, n, fun j => mI (if j < n then x else g j))) ∧ fr a (a + 1) s s' ∧ ∀ (kb wb : Nat) (Q : mx_R → Prop), Q (.inl (none, s')) → mx_J YJ7_fill_53178 kb wb 5 [some (mR a), some (mI x), some (mI (i : Int)), some (mI (n : Int))] [] s Q := by
    intro m
    induction m with
    | zero =>
      intro i hi s hs hc
      rw [show i = n by omega] at hc
      refine ⟨s, hc, fr.rf, fun kb wb Q hQ => ?_⟩
      exact B_YJ7_fill_53178_5 ⟨fun _ => hQ, fun c => absurd (by omega) c⟩
    | succ m ih =>
      intro i hi s hs hc
      have hc1 : sH (mx_wr s a (.inr (0, n, fun j => mI (if j < i + 1 then x else g j)))) a = some (.inr (0, n, fun j => mI (if j < i + 1 then x else g j))) := wr_at
      obtain ⟨s', h1, h2, h3⟩ := ih (i + 1) (by omega) (mx_wr s a (.inr (0, n, fun j => mI (if j < i + 1 then x else g j)))) hs hc1
      refine ⟨s', h1, (fr.wr (Nat.le_refl _) (by omega)).tr h2, fun kb wb Q hQ => ?_⟩
      refine B_YJ7_fill_53178_5 ⟨fun c => absurd c (by omega), fun _ => ⟨_, _, hc, hs, by omega, by omega, fun s2 e2 => ?_⟩⟩
      rw [up_I, Int.toNat_natCast] at e2
      have e3 : (fun j => mI (if j = i then x else if j < i then x else g j)) = fun j => mI (if j < i + 1 then x else g j) := by
        funext j
        by_cases c : j = i
        · rw [if_pos c, if_pos (by omega)]
        · rw [if_neg c]
          by_cases d : j < i
          · rw [if_pos d, if_pos (by omega)]
          · rw [if_neg d, if_neg (by omega)]
      rw [e3] at e2
      subst e2
      rw [mx_w_id (x := (i : Int) + 1) (by omega) (by omega)]
      exact h3 kb wb Q hQ
  obtain ⟨s', h1, h2, h3⟩ := key n 0 (by omega) σ hb (by rw [h]; simp)
  refine ⟨s', h1, h2, ?_⟩
  refine mx_retE (by decide) rfl (Nat.le_of_ble_eq_true rfl) h2.1 (by rw [h2.2.2.1]; exact Nat.le_refl _) (by rw [h2.2.2.2.1]; exact Nat.le_refl _) fun kb wb Q hk hw hQ => ?_
  exact B_YJ7_fill_53178_0 ⟨_, _, _, h, h3 kb wb Q hQ⟩
abbrev G0 : mt_G := (0, z0, z0, z0, fun j => if j < 40 then -1 else 0)
theorem c7_init {σ : mx_S} {g : Nat} (h : sH σ g = some (.inl (7, [mN, mN, mN, mN, mI 0]))) (hn : sN σ = g + 1) (hb : sB σ ≤ g) : ∃ σ' : mx_S, isG σ' g G0 ∧ fa g 4 1576 σ σ' ∧ mx_MS Y7_init [mR g] σ (.inl (none, σ')) := by
  obtain ⟨s1, e1⟩ : ∃ s, s = mx_wr (mx_al σ (.inr (0, 512, fun _ => mI 0)) 512) g (.inl (7, [mR (g + 1), mN, mN, mN, mI 0])) := ⟨_, rfl⟩
  have F1 : fa g 1 512 σ s1 := by rw [e1]; exact (fa.al (by omega)).tr (fa.wr (Nat.le_refl _)) (Nat.le_refl _) rfl rfl
  have n1 : sN s1 = g + 2 := by rw [F1.2.1, hn]
  have a1 : sH s1 g = some (.inl (7, [mR (g + 1), mN, mN, mN, mI 0])) := by rw [e1]; exact wr_at
  have b1 : sH s1 (g + 1) = some (.inr (0, 512, fun _ => mI 0)) := by rw [e1, wr_ne (by omega), ← hn]; exact al_at
  obtain ⟨s2, e2⟩ : ∃ s, s = mx_wr (mx_al s1 (.inr (0, 512, fun _ => mI 0)) 512) g (.inl (7, [mR (g + 1), mR (g + 2), mN, mN, mI 0])) := ⟨_, rfl⟩
  have F2 : fa g 1 512 s1 s2 := by rw [e2]; exact (fa.al (by omega)).tr (fa.wr (Nat.le_refl _)) (Nat.le_refl _) rfl rfl
  have n2 : sN s2 = g + 3 := by rw [F2.2.1, n1]
  have a2 : sH s2 g = some (.inl (7, [mR (g + 1), mR (g + 2), mN, mN, mI 0])) := by rw [e2]; exact wr_at
  have b2 : sH s2 (g + 1) = some (.inr (0, 512, fun _ => mI 0)) := by rw [e2, wr_ne (by omega), al_ne (by omega)]; exact b1
  have c2 : sH s2 (g + 2) = some (.inr (0, 512, fun _ => mI 0)) := by rw [e2, wr_ne (by omega), ← n1]; exact al_at
  obtain ⟨s3, e3⟩ : ∃ s, s = mx_wr (mx_al s2 (.inr (0, 512, fun _ => mI 0)) 512) g (.inl (7, [mR (g + 1), mR (g + 2), mR (g + 3), mN, mI 0])) := ⟨_, rfl⟩
  have F3 : fa g 1 512 s2 s3 := by rw [e3]; exact (fa.al (by omega)).tr (fa.wr (Nat.le_refl _)) (Nat.le_refl _) rfl rfl
  have n3 : sN s3 = g + 4 := by rw [F3.2.1, n2]
  have a3 : sH s3 g = some (.inl (7, [mR (g + 1), mR (g + 2), mR (g + 3), mN, mI 0])) := by rw [e3]; exact wr_at
  have b3 : sH s3 (g + 1) = some (.inr (0, 512, fun _ => mI 0)) := by rw [e3, wr_ne (by omega), al_ne (by omega)]; exact b2
  have c3 : sH s3 (g + 2) = some (.inr (0, 512, fun _ => mI 0)) := by rw [e3, wr_ne (by omega), al_ne (by omega)]; exact c2
  have d3 : sH s3 (g + 3) = some (.inr (0, 512, fun _ => mI 0)) := by rw [e3, wr_ne (by omega), ← n2]; exact al_at
  obtain ⟨s4, e4⟩ : ∃ s, s = mx_wr (mx_al s3 (.inr (0, 40, fun _ => mI 0)) 40) g (.inl (7, [mR (g + 1), mR (g + 2), mR (g + 3), mR (g + 4), mI 0])) := ⟨_, rfl⟩
  have F4 : fa g 1 40 s3 s4 := by rw [e4]; exact (fa.al (by omega)).tr (fa.wr (Nat.le_refl _)) (Nat.le_refl _) rfl rfl
  have a4 : sH s4 g = some (.inl (7, [mR (g + 1), mR (g + 2), mR (g + 3), mR (g + 4), mI 0])) := by rw [e4]; exact wr_at
  have h4 : sH s4 (g + 4) = some (.inr (0, 40, fun j => mI (z0 j))) := by rw [e4, wr_ne (by omega), ← n3]; exact al_at
  obtain ⟨s5, h5, F5, m5⟩ := cJ_fill h4 (by rw [F4.1, F3.1, F2.1, F1.1]; omega) (by decide) (-1)
  have F : fa g 4 1576 σ s5 := ((((F1.tr F2 (Nat.le_refl _) rfl rfl).tr F3 (Nat.le_refl _) rfl rfl).tr F4 (Nat.le_refl _) rfl rfl).tr (fa.fr F5 (lo := g) (by omega)) (Nat.le_refl _) rfl rfl)
  refine ⟨s5, ⟨(F5.at (by omega)).trans a4, (F5.at (by omega)).trans ?_, (F5.at (by omega)).trans ?_, (F5.at (by omega)).trans ?_, h5⟩, F, ?_⟩
  · rw [e4, wr_ne (by omega), al_ne (by omega)]; exact b3
  · rw [e4, wr_ne (by omega), al_ne (by omega)]; exact c3
  · rw [e4, wr_ne (by omega), al_ne (by omega)]; exact d3
  refine mx_retE (by decide) rfl (Nat.le_of_ble_eq_true rfl) F.1 (by rw [F.2.2.1]; omega) (by rw [F.2.2.2.1]; omega) fun kb wb Q hk hw hQ => ?_
  have hk5 := hk
  have hw5 := hw
  rw [F.2.2.1] at hk
  rw [F.2.2.2.1] at hw
  have k1 := F1.2.2.1
  have w1 := F1.2.2.2.1
  have k2 := F2.2.2.1
  have w2 := F2.2.2.2.1
  have k3 := F3.2.2.1
  have w3 := F3.2.2.2.1
  refine B_Y7_init_0 ⟨by decide, by decide, by omega, by show sW σ + 512 ≤ wb; omega, fun σ1 a q1 qa => ?_⟩
  subst q1 qa
  refine ⟨_, (al_ne (by omega)).trans h, Nat.le_of_ble_eq_true rfl, hb, fun σ2 q2 => ?_⟩
  rw [hn] at q2
  have q2 := q2.trans e1.symm
  subst q2
  refine ⟨by decide, by decide, by omega, by show sW _ + 512 ≤ wb; omega, fun σ3 a q3 qa => ?_⟩
  subst q3 qa
  refine ⟨_, (al_ne (by omega)).trans a1, Nat.le_of_ble_eq_true rfl, by rw [show sB (mx_al _ _ _) = _ from F1.1]; exact hb, fun σ4 q4 => ?_⟩
  rw [n1] at q4
  have q4 := q4.trans e2.symm
  subst q4
  refine ⟨by decide, by decide, by omega, by show sW _ + 512 ≤ wb; omega, fun σ5 a q5 qa => ?_⟩
  subst q5 qa
  refine ⟨_, (al_ne (by omega)).trans a2, Nat.le_of_ble_eq_true rfl, by rw [show sB (mx_al _ _ _) = _ from F2.1, F1.1]; exact hb, fun σ6 q6 => ?_⟩
  rw [n2] at q6
  have q6 := q6.trans e3.symm
  subst q6
  refine ⟨by decide, by decide, by omega, by show sW _ + 40 ≤ wb; omega, fun σ7 a q7 qa => ?_⟩
  subst q7 qa
  refine ⟨_, (al_ne (by omega)).trans a3, Nat.le_of_ble_eq_true rfl, by rw [show sB (mx_al _ _ _) = _ from F3.1, F2.1, F1.1]; exact hb, fun σ8 q8 => ?_⟩
  rw [n3] at q8
  have q8 := q8.trans e4.symm
  subst q8
  exact ⟨_, a4, _, rfl, s5, m5, hk5, hw5, hQ⟩
