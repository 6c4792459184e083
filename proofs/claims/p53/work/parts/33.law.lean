/-! The law's walk: its state; the first object; the texts. -/
theorem wl_a {a b : Nat} (h : a + b ≤ 100000) : mx_w ((a : Int) + b) = ((a + b : Nat) : Int) := by rw [mx_w_id (by omega) (by omega)]; omega
theorem wl_1 {a : Nat} (h : a ≤ 100000) : mx_w ((a : Int) + 1) = ((a + 1 : Nat) : Int) := by rw [mx_w_id (by omega) (by omega)]; omega
theorem wl_c {a : Nat} (h : a ≤ 100000) : mx_w (1 + (a : Int)) = ((a + 1 : Nat) : Int) := by rw [mx_w_id (by omega) (by omega)]; omega
theorem wl_m {a : Nat} (h0 : 0 < a) (h : a ≤ 100000) : mx_w ((a : Int) - 1) = ((a - 1 : Nat) : Int) := by rw [mx_w_id (by omega) (by omega)]; omega
theorem wl_n {a : Nat} (h0 : 0 < a) (h : a ≤ 100000) : mx_w ((a : Int) + (-1)) = ((a - 1 : Nat) : Int) := by rw [mx_w_id (by omega) (by omega)]; omega
theorem wl_20 {a : Nat} (h : a ≤ 1000) : mx_w (10 + mx_w (20 * (a : Int))) = ((10 + 20 * a : Nat) : Int) := by rw [mx_w_id (x := 20 * (a : Int)) (by omega) (by omega), mx_w_id (by omega) (by omega)]; omega
theorem and_11 : mx_and 1 1 = 1 := by decide
/-- cells below N stay, those of the object aside -/
def kpL (o N : Nat) (σ σ' : mx_S) : Prop := sB σ' = sB σ ∧ sN σ ≤ sN σ' ∧ ∀ q : Nat, q < N → (q < o ∨ o + 85 ≤ q) → sH σ' q = sH σ q
def bd (n : Nat) (σ : mx_S) : Prop := sK σ ≤ n ∧ sW σ ≤ 40000 + 100 * n
/-- the texts of the law -/
def LT (o b ta m N : Nat) (D : mt_D) (σ : mx_S) : Prop := scr σ b ∧ b < o ∧ sB σ ≤ o ∧ o + 85 ≤ ta ∧ ta < N ∧ N ≤ sN σ ∧ D.length ≤ m ∧ ∃ f : Nat → mx_V, sH σ ta = some (.inr (3, m, f)) ∧ ∀ k : Nat, k < D.length → ∃ a : Nat, f k = mR a ∧ o + 85 ≤ a ∧ a < N ∧ a ≠ ta ∧ isC σ a (D.getD k [])
theorem scr_kp {σ σ' : mx_S} {b : Nat} (h : scr σ b) (e : sH σ' b = sH σ b) : scr σ' b := by
  obtain ⟨n9, f9, x1, x2⟩ := h
  exact ⟨n9, f9, e.trans x1, x2⟩
theorem LT_kp {o b ta m N : Nat} {D : mt_D} {σ σ' : mx_S} (h : LT o b ta m N D σ) (k : kpL o N σ σ') : LT o b ta m N D σ' := by
  obtain ⟨h1, h2, h3, h4, h5, h6, h7, f, h8, h9⟩ := h
  obtain ⟨k1, k2, k3⟩ := k
  refine ⟨scr_kp h1 (k3 b (by omega) (by omega)), h2, by rw [k1]; exact h3, h4, h5, by omega, h7, f, (k3 ta h5 (by omega)).trans h8, fun k hk => ?_⟩
  obtain ⟨a, a1, a2, a3, a4, a5⟩ := h9 k hk
  exact ⟨a, a1, a2, a3, a4, a5.kp (k3 a a3 (by omega))⟩
theorem LT_txt {o b ta m N : Nat} {D : mt_D} {σ : mx_S} (h : LT o b ta m N D σ) {k : Nat} (hk : k < D.length) : ∃ (f : Nat → mx_V) (a : Nat) (g : Nat → Int), sH σ ta = some (.inr (3, m, f)) ∧ f ((k : Nat) : Int).toNat = mR a ∧ sH σ a = some (.inr (1, lenD D k, fun j => mI (g j))) ∧ (∀ j : Nat, j < lenD D k → g j = (D.getD k []).getD j 0) ∧ (k : Int) < m ∧ isC σ a (D.getD k []) := by
  obtain ⟨h1, h2, h3, h4, h5, h6, h7, f, h8, h9⟩ := h
  obtain ⟨a, a1, a2, a3, a4, a5⟩ := h9 k hk
  have a6 := a5
  obtain ⟨g, g1, g2⟩ := a5
  exact ⟨f, a, g, h8, by rw [Int.toNat_natCast]; exact a1, g1, g2, by omega, a6⟩
theorem fx_rf {o : Nat} {σ : mx_S} : fx o σ σ := ⟨rfl, Nat.le_refl _, Nat.le_add_right _ _, Nat.le_add_right _ _, fun _ _ => rfl⟩
theorem fx_kp {o N k : Nat} {σ σ' : mx_S} (F : fx o σ σ') (hk : sN σ' ≤ k) : kpL o N σ (mx_at_n σ' k) := ⟨F.1, Nat.le_trans F.2.1 hk, fun q _ hq => F.2.2.2.2 q hq⟩
theorem bd_fx {o n k : Nat} {σ σ' : mx_S} (h : bd n σ) (F : fx o σ σ') : bd (n + 1) (mx_at_n σ' k) := by
  have h1 := F.2.2.1
  have h2 := F.2.2.2.1
  have h3 := h.1
  have h4 := h.2
  refine ⟨?_, ?_⟩
  · show sK σ' ≤ n + 1
    omega
  · show sW σ' ≤ 40000 + 100 * (n + 1)
    omega
theorem bd_kb {kb wb n : Nat} {σ : mx_S} (h : bd n σ) (hn : n ≤ 5000) (hkb : 5000 ≤ kb) (hwb : 540000 ≤ wb) : sK σ ≤ kb ∧ sW σ ≤ wb := by
  have h3 := h.1
  have h4 := h.2
  omega
theorem bd_mono {n k : Nat} {σ : mx_S} (h : bd n σ) (hn : n ≤ k) : bd k σ := by
  have h3 := h.1
  have h4 := h.2
  exact ⟨by omega, by omega⟩
/-- before the texts -/
def AT (o b : Nat) (n : Nat) (σ : mx_S) : Prop := hS σ o [] [] none false ∧ scr σ b ∧ b < o ∧ sB σ ≤ o ∧ o + 85 ≤ sN σ ∧ bd n σ
/-- the law's state: the texts D; in the object the row w, the present P, the snapshot E -/
def GT (o b ta m N : Nat) (D : mt_D) (w : List Int) (P : mt_D) (E : Option mt_D) (bb : Bool) (n : Nat) (σ : mx_S) : Prop := hS σ o w P E bb ∧ LT o b ta m N D σ ∧ bd n σ
theorem AT_call {kb wb o b n : Nat} {σ σ' : mx_S} {Y : mx_M} {As : List mx_V} {v : Int} {G : Int → mx_S → Prop} (h : AT o b n σ) (hn : n + 1 ≤ 5000) (hkb : 5000 ≤ kb) (hwb : 540000 ≤ wb) (h' : hS σ' o [] [] none false) (F : fx o σ σ') (M : mx_MSN Y As σ (some (mI v)) σ') (K : ∀ σ3, AT o b (n + 1) σ3 → G v σ3) : ∃ (r : Int) (σ' : mx_S), mx_MSN Y As σ (some (mI r)) σ' ∧ sK σ' ≤ kb ∧ sW σ' ≤ wb ∧ ∀ (n4 : Nat) (σ3 : mx_S), sN σ' ≤ n4 → σ3 = mx_at_n σ' n4 → G r σ3 := by
  obtain ⟨h1, h2, h3, h4, h5, h6⟩ := h
  have hb := bd_kb (bd_fx (k := sN σ') h6 F) hn hkb hwb
  refine ⟨v, σ', M, hb.1, hb.2, fun n4 σ3 g1 g2 => ?_⟩
  subst g2
  refine K _ ⟨h'.kp (fun _ _ _ => rfl), scr_kp h2 (F.2.2.2.2 b (Or.inl h3)), h3, by show sB σ' ≤ o; rw [F.1]; exact h4, ?_, bd_fx h6 F⟩
  have := F.2.1
  show o + 85 ≤ n4
  omega
theorem GT_call {kb wb o b ta m N n : Nat} {D P P' : mt_D} {w w' : List Int} {E E' : Option mt_D} {bb bb' : Bool} {σ σ' : mx_S} {Y : mx_M} {As : List mx_V} {v : Int} {G : Int → mx_S → Prop} (h : GT o b ta m N D w P E bb n σ) (hn : n + 1 ≤ 5000) (hkb : 5000 ≤ kb) (hwb : 540000 ≤ wb) (h' : hS σ' o w' P' E' bb') (F : fx o σ σ') (M : mx_MSN Y As σ (some (mI v)) σ') (K : ∀ σ3, GT o b ta m N D w' P' E' bb' (n + 1) σ3 → (∀ N', kpL o N' σ σ3) → G v σ3) : ∃ (r : Int) (σ' : mx_S), mx_MSN Y As σ (some (mI r)) σ' ∧ sK σ' ≤ kb ∧ sW σ' ≤ wb ∧ ∀ (n4 : Nat) (σ3 : mx_S), sN σ' ≤ n4 → σ3 = mx_at_n σ' n4 → G r σ3 := by
  obtain ⟨h1, h2, h6⟩ := h
  have hb := bd_kb (bd_fx (k := sN σ') h6 F) hn hkb hwb
  refine ⟨v, σ', M, hb.1, hb.2, fun n4 σ3 g1 g2 => ?_⟩
  subst g2
  exact K _ ⟨h'.kp (fun _ _ _ => rfl), LT_kp h2 (fx_kp F g1), bd_fx h6 F⟩ (fun N' => fx_kp F g1)
/-- a hall with nothing in it -/
theorem hA_0 : hA H0 [] none false := by
  have v0 : vOK V0 [] := ⟨⟨Nat.zero_le _, fun _ => ⟨Int.le_refl _, Int.ofNat_nonneg 40⟩, fun _ => ⟨Int.le_refl _, Int.ofNat_nonneg 65535⟩⟩, ⟨rfl, Nat.zero_le _, fun k hk => absurd hk (Nat.not_lt_zero _)⟩, Or.inl rfl⟩
  refine ⟨v0, ⟨fun k x hx => ?_, fun k hk => absurd hk (Nat.not_lt_zero _), Nat.zero_le _, fun k => Nat.zero_le _⟩, ⟨Nat.zero_le _, Or.inl ⟨rfl, fun i hi => absurd hi (Nat.not_lt_zero _)⟩⟩, fun _ => ⟨rfl, fun i hi => absurd hi (Nat.not_lt_zero _)⟩, rfl, v0.1, fun i h1 h6 => if_pos h6, fun _ => ⟨(show (if 0 < 6 then (-1 : Int) else 0) = -1 from rfl), rfl⟩, fun D1 h => (by cases h)⟩
  simp at hx
theorem law_A {kb wb : Nat} (hkb : 5000 ≤ kb) (hwb : 540000 ≤ wb) {σ : mx_S} {b : Nat} {Q : mx_R → Prop} (hs : scr σ b) (hb : b < sN σ) (hB : sB σ ≤ sN σ) (h0 : sK σ = 0) (h1 : sW σ = 0) (K : ∀ (σ' : mx_S) (o ta m : Nat), 1 ≤ m → m ≤ 3 → GT o b ta m (ta + 1) [] [] [] none false 230 σ' → mx_J YL_law kb wb 86 [some (mR b), some (mR o), some (mI 1), some (mI (m : Int)), some (mR ta), some (mI 0), some (mI 0), none, none, none, none, none, none, none, none, none, none, none, none, none, none, none, none] [] σ' Q) : mx_J YL_law kb wb 0 [some (mR b), none, none, none, none, none, none, none, none, none, none, none, none, none, none, none, none, none, none, none, none, none, none] [] σ Q := by
  obtain ⟨s1, e1⟩ : ∃ s, s = mx_al σ (.inl (10, [mN, mN, mN, mN, mN, mN, mN, mI 0])) 8 := ⟨_, rfl⟩
  have k1 : ∀ q, q < sN σ → sH s1 q = sH σ q := fun q hq => of_al e1 hq
  have n1 : sN s1 = sN σ + 1 := by rw [e1]; rfl
  have c1 : sK s1 = sK σ + 1 := by rw [e1]; rfl
  have d1 : sW s1 = sW σ + 8 := by rw [e1]; rfl
  have b1 : sB s1 = sB σ := by rw [e1]; rfl
  obtain ⟨s2, hO, F, m⟩ := c10_init (σ := s1) (o := sN σ) (of_alA e1 rfl) n1 (by rw [b1]; exact hB)
  have f1 := F.2.1
  have f2 := F.2.2.1
  have f3 := F.2.2.2.1
  have hbd : bd 221 s2 := ⟨by omega, by omega⟩
  have A0 : AT (sN σ) b 221 s2 := ⟨⟨R0, H0, hO, ⟨Nat.zero_le _, fun _ => ⟨Int.le_refl _, Int.ofNat_nonneg 65535⟩⟩, ⟨rfl, fun i hi => absurd hi (Nat.not_lt_zero _)⟩, (fun x hx => by cases hx), hA_0⟩, scr_kp hs ((F.2.2.2.2 b hb).trans (k1 b hb)), hb, by rw [F.1, b1]; exact hB, by omega, hbd⟩
  refine B_YL_law_0 ⟨by omega, by omega, fun σ1 a2 e2 e3 => ?_⟩
  have e2 := e2.trans e1.symm
  subst e2 e3
  have hb0 := bd_kb hbd (by omega) hkb hwb
  have x1 := S_docX A0.1
  refine ⟨s2, m, hb0.1, hb0.2, AT_call A0 (by omega) hkb hwb x1.1 x1.2.1 x1.2.2 fun s3 A3 => ⟨fun c => absurd rfl c, fun _ => ?_⟩⟩
  have x2 := S_addX A3.1
  refine AT_call A3 (by omega) hkb hwb x2.1 x2.2.1 x2.2.2 fun s4 A4 => ⟨fun c => absurd rfl c, fun _ => ?_⟩
  obtain ⟨s5, y1, y2, y3⟩ := S_runs A4.1 A4.2.2.2.1 (Or.inl ⟨rfl, rfl⟩)
  refine AT_call A4 (by omega) hkb hwb y1 y2 y3 fun s6 A6 => ⟨fun c => absurd rfl c, fun _ => ?_⟩
  obtain ⟨s7, z1, z2, z3⟩ := S_suffX A6.1 A6.2.2.2.1 (Or.inl ⟨rfl, rfl⟩) (i := 0) (Nat.le_refl _) 120
  refine AT_call A6 (by omega) hkb hwb z1 z2 z3 fun s8 A8 => ⟨fun c => absurd rfl c, fun _ => ?_⟩
  have x3 := S_typeX A8.1
  refine AT_call A8 (by omega) hkb hwb x3.1 x3.2.1 x3.2.2 fun s9 A9 => ⟨fun c => absurd rfl c, fun _ => ?_⟩
  obtain ⟨r, r1, m1⟩ := kL_in A9.2.1 0 (n := 3) (by omega)
  obtain ⟨g1, g2, g3, g4, g5, g6⟩ := A9
  have hb9 := bd_kb g6 (by omega) hkb hwb
  have g7 := g6.1
  have g8 := g6.2
  refine B_YL_law_64 ⟨_, _, m1, hb9.1, hb9.2, ?_⟩
  rw [wl_c (by omega), Int.toNat_natCast]
  refine ⟨by omega, by omega, by omega, by omega, fun s10 ta e4 e5 => ?_⟩
  have k9 : ∀ q, q < sN s9 → sH s10 q = sH s9 q := fun q hq => of_al e4 hq
  have n9 : sN s10 = sN s9 + 1 := by rw [e4]; rfl
  have c9 : sK s10 = sK s9 + 1 := by rw [e4]; rfl
  have d9 : sW s10 = sW s9 + (r + 1) := by rw [e4]; rfl
  have b9 : sB s10 = sB s9 := by rw [e4]; rfl
  have a9 := of_alA e4 e5.symm
  refine K s10 (sN σ) ta (r + 1) (by omega) (by omega) ⟨g1.kp (fun q q1 q2 => k9 q (by omega)), ⟨scr_kp g2 (k9 b (by omega)), g3, by rw [b9]; exact g4, by omega, by omega, by omega, Nat.zero_le _, _, a9, fun k hk => absurd hk (Nat.not_lt_zero _)⟩, ⟨by omega, by omega⟩⟩
