/-! Texts and views: what changes them. -/
/-- the letters after a row was put in at j0, n letters behind it having moved -/
def wLet (f g : Nat → Int) (j0 m n : Nat) : Nat → Int := fun j => if j0 ≤ j ∧ j < j0 + m then g (j - j0) else if j0 + m ≤ j ∧ j < j0 + m + n then f (j0 + (j - (j0 + m))) else f j
def wSiz (f : Nat → Int) (s : Nat) (x : Int) : Nat → Int := fun j => if j = s then x else f j
theorem c8_widen {σ : mx_S} {t r : Nat} {T : mt_T} {R : mt_R} (h : isT σ t T) (hb : sB σ ≤ t) (ok : okT T) (g : isR σ r R) (okr : okR R) (dj : r + 2 ≤ t ∨ t + 4 ≤ r) {s p z : Nat} (hs : s < T.1) (hz : T.2.2.1 s = z) (hp : p ≤ z) (h40 : z + R.1 ≤ 40) : ∃ σ' : mx_S, isT σ' t (T.1, T.2.1, wSiz T.2.2.1 s ((z + R.1 : Nat) : Int), wLet T.2.2.2 R.2 (s * 40 + p) R.1 (z - p)) ∧ fr t (t + 4) σ σ' ∧ mx_MS Y8_widen [mR t, mI (s : Int), mI (p : Int), mR r] σ (.inl (none, σ')) := by
  obtain ⟨h0, h1, h2, h3⟩ := id h
  have h12 := ok.1
  refine ⟨mx_wr (mx_wr σ (t + 3) (.inr (1, 480, fun j => mI (wLet T.2.2.2 R.2 (s * 40 + p) R.1 (z - p) j)))) (t + 2) (.inr (0, 12, fun j => mI (wSiz T.2.2.1 s ((z + R.1 : Nat) : Int) j))), ⟨(wr_ne (by omega)).trans ((wr_ne (by omega)).trans h0), (wr_ne (by omega)).trans ((wr_ne (by omega)).trans h1), wr_at, (wr_ne (by omega)).trans wr_at⟩, (fr.wr (by omega) (by omega)).tr (fr.wr (by omega) (by omega)), ?_⟩
  refine mx_retE (by decide) rfl (Nat.le_of_ble_eq_true rfl) rfl (Nat.le_refl _) (Nat.le_refl _) fun kb wb Q hk hw hQ => ?_
  have es : tSize T s = z := by
    unfold tSize
    rw [if_neg (by omega), if_neg (by omega), if_neg (by omega), Int.toNat_natCast, hz]
  have ei : tIs T s ≠ 0 := fun q => absurd (tIs_0.mp q) (by omega)
  refine B_Y8_widen_0 ⟨_, h0, _, _, c8_sizeAt h _, hk, hw, _, g.1, _, _, c6_size g, hk, hw, _, h0, _, _, c8_isSlot h _, hk, hw, fun c => absurd c ei, fun _ => ⟨fun c => absurd c (by omega), fun _ => ?_⟩⟩
  rw [es]
  have e0 : mx_w ((z : Int) + R.1) = ((z + R.1 : Nat) : Int) := by rw [mx_w_id (by omega) (by omega)]; omega
  have e1 : mx_w ((s : Int) * 40) = ((s * 40 : Nat) : Int) := by rw [mx_w_id (by omega) (by omega)]; omega
  have e2 : mx_w (((s * 40 : Nat) : Int) + p) = ((s * 40 + p : Nat) : Int) := by rw [mx_w_id (by omega) (by omega)]; omega
  have e3 : mx_w (((s * 40 + p : Nat) : Int) + R.1) = ((s * 40 + p + R.1 : Nat) : Int) := by rw [mx_w_id (by omega) (by omega)]; omega
  have e4 : mx_w ((z : Int) - p) = ((z - p : Nat) : Int) := by rw [mx_w_id (by omega) (by omega)]; omega
  refine ⟨fun c => absurd c (by omega), fun _ => ⟨fun _ => ?_, fun c => absurd ?_ c⟩⟩
  rotate_left
  · rw [e0]
    omega
  rw [e1, e2, e3, e4]
  refine ⟨_, h0, _, rfl, _, h0, _, rfl, _, _, _, _, _, h3, h3, by decide, by omega, by omega, by omega, by omega, by omega, by omega, fun i _ => ?_, fun σ1 q1 => ?_⟩
  · exact mx_fch (ok.2.2 _).1 (ok.2.2 _).2
  rw [cp_I, Int.toNat_natCast, Int.toNat_natCast, Int.toNat_natCast] at q1
  have key : ∀ (n i : Nat), i + n = R.1 → mx_J Y8_widen kb wb 77 [some (mR t), some (mI (s : Int)), some (mI (p : Int)), some (mR r), some (mI (z : Int)), some (mI (R.1 : Int)), some (mI ((s * 40 : Nat) : Int)), some (mI (i : Int))] [] (mx_wr σ (t + 3) (.inr (1, 480, fun j => mI (if s * 40 + p ≤ j ∧ j < s * 40 + p + i then R.2 (j - (s * 40 + p)) else if s * 40 + p + R.1 ≤ j ∧ j < s * 40 + p + R.1 + (z - p) then T.2.2.2 (s * 40 + p + (j - (s * 40 + p + R.1))) else T.2.2.2 j)))) Q := by
    intro n
    induction n with
    | zero =>
      intro i hi
      have hi : i = R.1 := by omega
      subst hi
      refine B_Y8_widen_77 ⟨fun _ => ⟨_, (wr_ne (by omega)).trans h0, _, rfl, _, _, (wr_ne (by omega)).trans h2, by show sB σ ≤ _; omega, by omega, by omega, fun σ2 q2 => ?_⟩, fun c => absurd (Int.le_refl _) c⟩
      rw [up_I, Int.toNat_natCast, e0] at q2
      subst q2
      exact hQ
    | succ n ih =>
      intro i hi
      have h20 := okr.1
      have e5 : mx_w (((s * 40 + p : Nat) : Int) + i) = ((s * 40 + p + i : Nat) : Int) := by rw [mx_w_id (by omega) (by omega)]; omega
      have e6 : mx_w ((i : Int) + 1) = ((i + 1 : Nat) : Int) := by rw [mx_w_id (by omega) (by omega)]; omega
      have er : rSign R i = R.2 i := by
        unfold rSign
        rw [if_neg (by omega), if_neg (by omega), if_neg (by omega), Int.toNat_natCast]
      have g1 : isR (mx_wr σ (t + 3) (.inr (1, 480, fun j => mI (if s * 40 + p ≤ j ∧ j < s * 40 + p + i then R.2 (j - (s * 40 + p)) else if s * 40 + p + R.1 ≤ j ∧ j < s * 40 + p + R.1 + (z - p) then T.2.2.2 (s * 40 + p + (j - (s * 40 + p + R.1))) else T.2.2.2 j)))) r R := g.kp (fun q q1 q2 => wr_ne (by omega))
      refine B_Y8_widen_77 ⟨fun c => absurd c (by omega), fun _ => ⟨_, (wr_ne (by omega)).trans h0, _, rfl, _, g1.1, _, _, c6_sign g1 okr _, hk, hw, _, _, wr_at, by show sB σ ≤ _; omega, ?_⟩⟩
      rw [e2, e5, e6, er]
      refine ⟨by omega, by omega, (okr.2 _).1, (okr.2 _).2, fun σ2 q2 => ?_⟩
      rw [up_I, Int.toNat_natCast] at q2
      have e9 : σ2 = mx_wr σ (t + 3) (.inr (1, 480, fun j => mI (if s * 40 + p ≤ j ∧ j < s * 40 + p + (i + 1) then R.2 (j - (s * 40 + p)) else if s * 40 + p + R.1 ≤ j ∧ j < s * 40 + p + R.1 + (z - p) then T.2.2.2 (s * 40 + p + (j - (s * 40 + p + R.1))) else T.2.2.2 j))) := by
        rw [q2]
        unfold mx_wr
        refine Prod.ext rfl (Prod.ext (funext fun a => ?_) rfl)
        show (if a = t + 3 then _ else if a = t + 3 then _ else σ.2.1 a) = if a = t + 3 then _ else σ.2.1 a
        by_cases c : a = t + 3
        · rw [if_pos c, if_pos c]
          congr 4
          funext j
          by_cases d : j = s * 40 + p + i
          · rw [if_pos d, if_pos (by omega), show j - (s * 40 + p) = i by omega]
          · rw [if_neg d]
            by_cases d2 : s * 40 + p ≤ j ∧ j < s * 40 + p + i
            · rw [if_pos d2, if_pos (by omega)]
            · rw [if_neg d2, if_neg (show ¬ (s * 40 + p ≤ j ∧ j < s * 40 + p + (i + 1)) by omega)]
        · rw [if_neg c, if_neg c, if_neg c]
      rw [e9]
      exact ih (i + 1) (by omega)
  have k0 := key R.1 0 (by omega)
  have e9 : σ1 = mx_wr σ (t + 3) (.inr (1, 480, fun j => mI (if s * 40 + p ≤ j ∧ j < s * 40 + p + 0 then R.2 (j - (s * 40 + p)) else if s * 40 + p + R.1 ≤ j ∧ j < s * 40 + p + R.1 + (z - p) then T.2.2.2 (s * 40 + p + (j - (s * 40 + p + R.1))) else T.2.2.2 j))) := by
    rw [q1]
    congr 4
    funext j
    rw [if_neg (show ¬ (s * 40 + p ≤ j ∧ j < s * 40 + p + 0) by omega)]
  rw [e9]
  exact k0
theorem c8_append {σ : mx_S} {t r : Nat} {T : mt_T} {R : mt_R} (h : isT σ t T) (hb : sB σ ≤ t) (ok : okT T) (g : isR σ r R) (okr : okR R) (dj : r + 2 ≤ t ∨ t + 4 ≤ r) (d : Int) (hm : T.1 < 12) : ∃ σ' : mx_S, isT σ' t (T.1 + 1, wSiz T.2.1 T.1 d, wSiz (wSiz T.2.2.1 T.1 0) T.1 ((0 + R.1 : Nat) : Int), wLet T.2.2.2 R.2 (T.1 * 40 + 0) R.1 (0 - 0)) ∧ fr t (t + 4) σ σ' ∧ mx_MS Y8_append [mR t, mI d, mR r] σ (.inl (none, σ')) := by
  obtain ⟨h0, h1, h2, h3⟩ := id h
  have w1 : isT (mx_wr (mx_wr (mx_wr σ (t + 1) (.inr (0, 12, fun j => mI (wSiz T.2.1 T.1 d j)))) (t + 2) (.inr (0, 12, fun j => mI (wSiz T.2.2.1 T.1 0 j)))) t (.inl (8, [mR (t + 1), mR (t + 2), mR (t + 3), mI ((T.1 + 1 : Nat) : Int)]))) t (T.1 + 1, wSiz T.2.1 T.1 d, wSiz T.2.2.1 T.1 0, T.2.2.2) :=
    ⟨wr_at, (wr_ne (by omega)).trans ((wr_ne (by omega)).trans wr_at), (wr_ne (by omega)).trans wr_at, (wr_ne (by omega)).trans ((wr_ne (by omega)).trans ((wr_ne (by omega)).trans h3))⟩
  have F1 : fr t (t + 4) σ (mx_wr (mx_wr (mx_wr σ (t + 1) (.inr (0, 12, fun j => mI (wSiz T.2.1 T.1 d j)))) (t + 2) (.inr (0, 12, fun j => mI (wSiz T.2.2.1 T.1 0 j)))) t (.inl (8, [mR (t + 1), mR (t + 2), mR (t + 3), mI ((T.1 + 1 : Nat) : Int)]))) := ((fr.wr (by omega) (by omega)).tr (fr.wr (by omega) (by omega))).tr (fr.wr (by omega) (by omega))
  generalize hσ1 : mx_wr (mx_wr (mx_wr σ (t + 1) (.inr (0, 12, fun j => mI (wSiz T.2.1 T.1 d j)))) (t + 2) (.inr (0, 12, fun j => mI (wSiz T.2.2.1 T.1 0 j)))) t (.inl (8, [mR (t + 1), mR (t + 2), mR (t + 3), mI ((T.1 + 1 : Nat) : Int)])) = σ1 at w1 F1
  have ok1 : okT (T.1 + 1, wSiz T.2.1 T.1 d, wSiz T.2.2.1 T.1 0, T.2.2.2) := by
    refine ⟨by show T.1 + 1 ≤ 12; omega, fun j => ?_, ok.2.2⟩
    show 0 ≤ wSiz T.2.2.1 T.1 0 j ∧ wSiz T.2.2.1 T.1 0 j ≤ 40
    unfold wSiz
    split
    · omega
    · exact ok.2.1 j
  have h20 := okr.1
  obtain ⟨σ2, w2, F2, m2⟩ := c8_widen (s := T.1) (p := 0) (z := 0) w1 (by rw [F1.1]; exact hb) ok1 (g.kp (fun q q1 q2 => F1.at (by omega))) okr dj (by show T.1 < T.1 + 1; omega) (if_pos rfl) (by omega) (by omega)
  have F := F1.tr F2
  refine ⟨σ2, w2, F, ?_⟩
  refine mx_retE (by decide) rfl (Nat.le_of_ble_eq_true rfl) F.1 (by rw [F.2.2.1]; exact Nat.le_refl _) (by rw [F.2.2.2.1]; exact Nat.le_refl _) fun kb wb Q hk hw hQ => ?_
  refine B_Y8_append_0 ⟨_, h0, _, rfl, fun c => absurd c (by omega), fun _ => ⟨_, h0, _, rfl, fun _ => ⟨_, h0, _, rfl, _, h0, _, rfl, _, _, h1, by omega, by omega, by omega, fun σa ea => ?_⟩, fun c => absurd c (by omega)⟩⟩
  rw [up_I, Int.toNat_natCast] at ea
  subst ea
  refine ⟨_, (wr_ne (by omega)).trans h0, _, rfl, _, (wr_ne (by omega)).trans h0, _, rfl, _, _, (wr_ne (by omega)).trans h2, by show sB σ ≤ _; omega, by omega, by omega, fun σb eb => ?_⟩
  rw [up_I, Int.toNat_natCast] at eb
  subst eb
  refine ⟨_, (wr_ne (by omega)).trans ((wr_ne (by omega)).trans h0), _, rfl, _, (wr_ne (by omega)).trans ((wr_ne (by omega)).trans h0), Nat.le_of_ble_eq_true rfl, hb, fun σc ec => ?_⟩
  rw [mx_w_id (x := (T.1 : Int) + 1) (by omega) (by omega)] at ec
  have ec : σc = σ1 := ec.trans hσ1
  subst ec
  refine ⟨_, w1.1, _, rfl, _, w1.1, σ2, ?_, hk, hw, hQ⟩
  rw [show mx_w (((T.1 + 1 : Nat) : Int) - 1) = (T.1 : Int) by rw [mx_w_id (by omega) (by omega)]; omega]
  exact m2
theorem c9_forget {σ : mx_S} {v : Nat} {V : mt_V} (h : isV σ v V) (hb : sB σ ≤ v) : ∃ σ' : mx_S, isV σ' v (V.1, 0, 0, V.2.2.2) ∧ fr v (v + 1) σ σ' ∧ mx_MS Y9_forgetOrder [mR v] σ (.inl (none, σ')) := by
  refine ⟨mx_wr (mx_wr σ v (.inl (9, [mR (v + 1), mR (v + 5), mR (v + 6), mR (v + 7), mI V.2.1, mI 0]))) v (.inl (9, [mR (v + 1), mR (v + 5), mR (v + 6), mR (v + 7), mI 0, mI 0])), ⟨wr_at, h.2.1.kp (fun q q1 q2 => (wr_ne (by omega)).trans (wr_ne (by omega))), (wr_ne (by omega)).trans ((wr_ne (by omega)).trans h.2.2.1), (wr_ne (by omega)).trans ((wr_ne (by omega)).trans h.2.2.2.1), (wr_ne (by omega)).trans ((wr_ne (by omega)).trans h.2.2.2.2)⟩, (fr.wr (by omega) (by omega)).tr (fr.wr (by omega) (by omega)), ?_⟩
  refine mx_retE (by decide) rfl (Nat.le_of_ble_eq_true rfl) rfl (Nat.le_refl _) (Nat.le_refl _) fun kb wb Q hk hw hQ => ?_
  refine B_Y9_forgetOrder_0 ⟨_, h.1, Nat.le_of_ble_eq_true rfl, hb, fun σ1 e1 => ?_⟩
  subst e1
  refine ⟨_, wr_at, Nat.le_of_ble_eq_true rfl, hb, fun σ2 e2 => ?_⟩
  subst e2
  exact hQ
/-- one function up to n, another from there on -/
def mixF (f g : Nat → Int) (n : Nat) : Nat → Int := fun j => if 0 ≤ j ∧ j < 0 + n then f (0 + (j - 0)) else g j
theorem mixF_in {f g : Nat → Int} {n j : Nat} (h : j < n) : mixF f g n j = f j := by
  unfold mixF
  rw [if_pos (by omega), show 0 + (j - 0) = j by omega]
theorem c8_become {σ : mx_S} {t u : Nat} {T U : mt_T} (h : isT σ t T) (hb : sB σ ≤ t) (g : isT σ u U) (okU : okT U) (dj : u + 4 ≤ t ∨ t + 4 ≤ u) : ∃ σ' : mx_S, isT σ' t (U.1, mixF U.2.1 T.2.1 12, mixF U.2.2.1 T.2.2.1 12, mixF U.2.2.2 T.2.2.2 480) ∧ fr t (t + 4) σ σ' ∧ mx_MS Y8_become [mR t, mR u] σ (.inl (none, σ')) := by
  obtain ⟨h0, h1, h2, h3⟩ := id h
  obtain ⟨g0, g1, g2, g3⟩ := id g
  refine ⟨mx_wr (mx_wr (mx_wr (mx_wr σ (t + 1) (.inr (0, 12, fun j => mI (mixF U.2.1 T.2.1 12 j)))) (t + 2) (.inr (0, 12, fun j => mI (mixF U.2.2.1 T.2.2.1 12 j)))) (t + 3) (.inr (1, 480, fun j => mI (mixF U.2.2.2 T.2.2.2 480 j)))) t (.inl (8, [mR (t + 1), mR (t + 2), mR (t + 3), mI U.1])), ⟨wr_at, ?_, ?_, (wr_ne (by omega)).trans wr_at⟩, (((fr.wr (by omega) (by omega)).tr (fr.wr (by omega) (by omega))).tr (fr.wr (by omega) (by omega))).tr (fr.wr (by omega) (by omega)), ?_⟩
  · exact (wr_ne (by omega)).trans ((wr_ne (by omega)).trans ((wr_ne (by omega)).trans wr_at))
  · exact (wr_ne (by omega)).trans ((wr_ne (by omega)).trans wr_at)
  refine mx_retE (by decide) rfl (Nat.le_of_ble_eq_true rfl) rfl (Nat.le_refl _) (Nat.le_refl _) fun kb wb Q hk hw hQ => ?_
  refine B_Y8_become_0 ⟨_, g0, _, rfl, _, h0, _, rfl, _, _, _, _, _, g1, h1, by decide, by omega, by omega, by omega, by omega, by omega, by omega, fun _ _ => rfl, fun σa ea => ?_⟩
  rw [cp_I] at ea
  subst ea
  refine ⟨_, (wr_ne (by omega)).trans g0, _, rfl, _, (wr_ne (by omega)).trans h0, _, rfl, _, _, _, _, _, (wr_ne (by omega)).trans g2, (wr_ne (by omega)).trans h2, by decide, by show sB σ ≤ _; omega, by omega, by omega, by omega, by omega, by omega, fun _ _ => rfl, fun σb eb => ?_⟩
  rw [cp_I] at eb
  subst eb
  refine ⟨_, (wr_ne (by omega)).trans ((wr_ne (by omega)).trans g0), _, rfl, _, (wr_ne (by omega)).trans ((wr_ne (by omega)).trans h0), _, rfl, _, _, _, _, _, (wr_ne (by omega)).trans ((wr_ne (by omega)).trans g3), (wr_ne (by omega)).trans ((wr_ne (by omega)).trans h3), by decide, by show sB σ ≤ _; omega, by omega, by omega, by omega, by omega, by omega, fun i _ => mx_fch (okU.2.2 _).1 (okU.2.2 _).2, fun σc ec => ?_⟩
  rw [cp_I] at ec
  subst ec
  refine ⟨_, (wr_ne (by omega)).trans ((wr_ne (by omega)).trans ((wr_ne (by omega)).trans g0)), _, rfl, _, (wr_ne (by omega)).trans ((wr_ne (by omega)).trans ((wr_ne (by omega)).trans h0)), Nat.le_of_ble_eq_true rfl, hb, fun σd ed => ?_⟩
  subst ed
  exact hQ
theorem c9_become {σ : mx_S} {v u : Nat} {V U : mt_V} (h : isV σ v V) (hb : sB σ ≤ v) (g : isV σ u U) (okU : okT U.1) (dj : u + 8 ≤ v ∨ v + 8 ≤ u) : ∃ σ' : mx_S, isV σ' v ((U.1.1, mixF U.1.2.1 V.1.2.1 12, mixF U.1.2.2.1 V.1.2.2.1 12, mixF U.1.2.2.2 V.1.2.2.2 480), 0, 0, V.2.2.2) ∧ fr v (v + 8) σ σ' ∧ mx_MS Y9_become [mR v, mR u] σ (.inl (none, σ')) := by
  obtain ⟨σ1, w1, F1, m1⟩ := c8_become h.2.1 (by omega) g.2.1 okU (by omega)
  have hv : isV σ1 v ((U.1.1, mixF U.1.2.1 V.1.2.1 12, mixF U.1.2.2.1 V.1.2.2.1 12, mixF U.1.2.2.2 V.1.2.2.2 480), V.2) := ⟨(F1.at (by omega)).trans h.1, w1, (F1.at (by omega)).trans h.2.2.1, (F1.at (by omega)).trans h.2.2.2.1, (F1.at (by omega)).trans h.2.2.2.2⟩
  obtain ⟨σ2, w2, F2, m2⟩ := c9_forget hv (by rw [F1.1]; exact hb)
  have F := (F1.mono (lo' := v) (hi' := v + 8) (by omega) (by omega)).tr (F2.mono (by omega) (by omega))
  refine ⟨σ2, w2, F, ?_⟩
  refine mx_retE (by decide) rfl (Nat.le_of_ble_eq_true rfl) F.1 (by rw [F.2.2.1]; exact Nat.le_refl _) (by rw [F.2.2.2.1]; exact Nat.le_refl _) fun kb wb Q hk hw hQ => ?_
  have hk0 : sK σ1 ≤ kb := by rw [F1.2.2.1, ← F.2.2.1]; exact hk
  have hw0 : sW σ1 ≤ wb := by rw [F1.2.2.2.1, ← F.2.2.2.1]; exact hw
  exact B_Y9_become_0 ⟨_, h.1, _, rfl, _, g.1, _, rfl, _, h.2.1.1, σ1, m1, hk0, hw0, _, hv.1, σ2, m2, hk, hw, hQ⟩
/-- letters a to e alone -/
def letD (D : mt_D) : Prop := ∀ (k : Nat) (x : Int), x ∈ D.getD k [] → 97 ≤ x ∧ x ≤ 101
theorem letD.pos {D : mt_D} (h : letD D) : posD D := fun k x hx => by have := h k x hx; omega
theorem letD.at {D : mt_D} (h : letD D) {k p : Nat} (hp : p < lenD D k) : 97 ≤ (D.getD k []).getD p 0 ∧ (D.getD k []).getD p 0 ≤ 101 := by
  unfold lenD at hp
  rw [List.getD_eq_getElem?_getD (l := D.getD k []), List.getElem?_eq_getElem hp]
  exact h k _ (List.getElem_mem hp)
/-- the turned text -/
def trn (D : mt_D) (y : Nat × Nat) : Int := if y.2 = 0 then 36 else (D.getD y.1 []).getD (y.2 - 1) 0
theorem ordV.ok {V : mt_V} {D : mt_D} (h : ordV V D) (ok : okT V.1) (hr : rep V.1 D) : okV V := by
  refine ⟨ok, ?_, fun i hi => ?_⟩
  · rw [h.2.1, ordS_len]
    have := totD_le (rep_len hr) D.length
    have := hr.2.1
    omega
  · obtain ⟨z1, z2, z3⟩ := h.2.2.1 i _ (List.getElem?_eq_getElem (by rw [← h.2.1]; exact hi))
    omega
theorem ordV.at {V : mt_V} {D : mt_D} (h : ordV V D) (ok : okT V.1) (hr : rep V.1 D) {i : Nat} {y : Nat × Nat} (hy : (ordS D D.length)[i]? = some y) : vSlot V i = y.1 ∧ vPlace V i = y.2 ∧ vTurn V i = trn D y ∧ y.1 < D.length ∧ y.2 < lenD D y.1 := by
  have okv := h.ok ok hr
  have hlt := (List.getElem?_eq_some_iff.mp hy).1
  obtain ⟨z1, z2, z3⟩ := h.2.2.1 i y hy
  have hm := (ordS_mem D.length).mp (List.mem_of_getElem? hy)
  have e1 : vCode V i = 40 * y.1 + y.2 := by
    have := okv.2.1
    have := h.2.1
    unfold vCode
    rw [if_neg (by omega), if_neg (by omega), if_neg (by omega), Int.toNat_natCast, z1]
  have e2 : vSlot V i = y.1 := by
    unfold vSlot
    rw [if_pos (by omega), e1]
    omega
  have e3 : vPlace V i = y.2 := by
    unfold vPlace
    rw [if_pos (by omega), e1]
    omega
  refine ⟨e2, e3, ?_, hm.1, hm.2⟩
  unfold vTurn trn
  rw [e2, e3]
  by_cases c : y.2 = 0
  · rw [if_pos c, if_pos (by omega)]
  · rw [if_neg c, if_neg (by omega), show (y.2 : Int) - 1 = ((y.2 - 1 : Nat) : Int) by omega, rep_let hr]
theorem tPl_tot {T : mt_T} {D : mt_D} (hr : rep T D) : ∀ s : Nat, tPl T s = totD D s
  | 0 => rfl
  | s + 1 => by
    simp only [tPl, totD]
    rw [tPl_tot hr s, rep_size hr]
    omega
theorem cn_one : ∀ {n : Nat}, 0 < n → cn (fun b => decide (b = 0)) n = 1
  | 1, _ => rfl
  | n + 2, _ => by
    have := cn_one (n := n + 1) (by omega)
    simp only [cn] at this ⊢
    simpa using this
theorem ct_beg {D : mt_D} (h : ∀ k, k < D.length → 0 < lenD D k) : ∀ s : Nat, s ≤ D.length → ctD D (fun y => decide (y.2 = 0)) s = s
  | 0, _ => rfl
  | s + 1, hs => by
    simp only [ctD]
    rw [ct_beg h s (by omega)]
    have := cn_one (h s (by omega))
    omega
theorem getD_of {L : List (Nat × Nat)} {i : Nat} {y : Nat × Nat} (h : L[i]? = some y) : L.getD i (0, 0) = y := by
  rw [List.getD_eq_getElem?_getD, h]
  rfl
/-- counting over ranks of an ordered view is counting over places -/
theorem vCn {D : mt_D} {p : Nat → Bool} (q : Nat × Nat → Bool) (h : ∀ i y, (ordS D D.length)[i]? = some y → p i = q y) : cn p (ordS D D.length).length = ctD D q D.length := by
  rw [← ordS_ct, ct_all q]
  refine cn_cong fun i hi => ?_
  have e := List.getElem?_eq_getElem hi
  rw [h i _ e, getD_of e]
theorem trn_36 {D : mt_D} (hl : letD D) {y : Nat × Nat} (h : y.2 < lenD D y.1) : trn D y = 36 ↔ y.2 = 0 := by
  unfold trn
  split
  · simp [*]
  · have := hl.at (k := y.1) (p := y.2 - 1) (by omega)
    constructor <;> intro c <;> omega
theorem c9_isInOrder {σ : mx_S} {v : Nat} {V : mt_V} {D : mt_D} (h : isV σ v V) (hb : sB σ ≤ v) (ok : okT V.1) (hr : rep V.1 D) (hl : letD D) (hne : ∀ k, k < D.length → 0 < lenD D k) (ho : V.2.2.1 = 0 ∨ ordV V D) : ∃ (σ' : mx_S) (V' : mt_V), isV σ' v V' ∧ V'.1 = V.1 ∧ ordV V' D ∧ fr v (v + 8) σ σ' ∧ mx_MS Y9_isInOrder [mR v] σ (.inl (some (mI 1), σ')) := by
  obtain ⟨σ', V', w, e, o, F, m⟩ := c9_order h hb ok hr hl.pos ho
  refine ⟨σ', V', w, e, o, F, ?_⟩
  rw [← e] at ok hr
  have okv := o.ok ok hr
  have h480 := okv.2.1
  have hm := o.2.1
  refine mx_retE (by decide) rfl (Nat.le_of_ble_eq_true rfl) F.1 (by rw [F.2.2.1]; exact Nat.le_refl _) (by rw [F.2.2.2.1]; exact Nat.le_refl _) fun kb wb Q hk hw hQ => ?_
  refine B_Y9_isInOrder_0 ⟨_, h.1, σ', m, hk, hw, ?_⟩
  have e36 : cn (fun i => decide (vTurn V' i = 36)) (ordS D D.length).length = D.length := by
    rw [vCn (fun y => decide (y.2 = 0)) (fun i y hy => ?_), ct_beg hne _ (Nat.le_refl _)]
    obtain ⟨-, -, a3, -, a5⟩ := o.at ok hr hy
    rw [a3]
    simp only [trn_36 hl a5]
  have key : ∀ (n k : Nat), k + n = V'.2.1 → mx_J Y9_isInOrder kb wb 8 [some (mR v), some (mI (cn (fun i => decide (vTurn V' i = 36)) k)), some (mI (k : Int)), none, none] [] σ' Q := by
    intro n
    induction n with
    | zero =>
      intro k hk9
      have h1 := hr.1
      refine B_Y9_isInOrder_8 ⟨_, w.1, _, rfl, fun _ => ⟨_, w.1, _, rfl, _, w.1, _, rfl, _, w.2.1.1, _, _, c8_places w.2.1 ok, hk, hw, fun c => absurd ?_ c, fun _ => ⟨_, w.1, _, rfl, _, w.2.1.1, _, _, c8_many w.2.1, hk, hw, fun c => absurd ?_ c, fun _ => hQ⟩⟩, fun c => absurd (by omega) c⟩
      · rw [tPl_tot hr, h1, ← ordS_len, hm]
      · rw [show k = (ordS D D.length).length by omega, e36, h1]
    | succ n ih =>
      intro k hk9
      have ih := ih (k + 1) (by omega)
      obtain ⟨y, hy⟩ : ∃ y, (ordS D D.length)[k]? = some y := ⟨_, List.getElem?_eq_getElem (by omega)⟩
      obtain ⟨a1, a2, a3, a4, a5⟩ := o.at ok hr hy
      have hc := cn_le (fun i => decide (vTurn V' i = 36)) k
      have e1 : mx_w ((k : Int) + 1) = ((k + 1 : Nat) : Int) := by rw [mx_w_id (by omega) (by omega)]; omega
      have e2 : mx_w ((cn (fun i => decide (vTurn V' i = 36)) k : Int) + 1) = ((cn (fun i => decide (vTurn V' i = 36)) k + 1 : Nat) : Int) := by rw [mx_w_id (by omega) (by omega)]; omega
      have nl : tLet V'.1 (vSlot V' k) (vPlace V' k) ≠ 0 := by
        rw [a1, a2, rep_let hr]
        have := hl.at a5
        omega
      have K : ∀ a b : Int, mx_J Y9_isInOrder kb wb 54 [some (mR v), some (mI (cn (fun i => decide (vTurn V' i = 36)) k)), some (mI (k : Int)), some (mI a), some (mI b)] [] σ' Q := fun a b => by
        refine B_Y9_isInOrder_54 ⟨_, w.1, _, _, c9_turnedAt w okv _, hk, hw, fun c => B_Y9_isInOrder_67 ?_, fun c => B_Y9_isInOrder_67 ?_⟩
        · rw [e1]
          simp only [cn, decide_eq_true_eq, if_neg c] at ih
          exact ih
        · rw [e1, e2]
          simp only [cn, decide_eq_true_eq, if_pos (Decidable.not_not.mp c)] at ih
          exact ih
      refine B_Y9_isInOrder_8 ⟨_, w.1, _, rfl, fun c => absurd c (by omega), fun _ => ⟨_, w.1, _, _, c9_slotAt w okv _, hk, hw, _, w.1, _, _, c9_placeAt w okv _, hk, hw, _, w.1, _, _, c9_rankAt w okv nl, hk, hw, fun c => absurd ?_ c, fun _ => ⟨fun _ => K _ _, fun c => ⟨_, w.1, _, _, c9_isRising w okv (by omega), hk, hw, fun _ => K _ _, fun c2 => absurd ?_ c2⟩⟩⟩⟩
      · rw [a1, a2, Int.toNat_natCast, Int.toNat_natCast, Nat.mul_comm]
        exact o.2.2.2 k y hy
      · obtain ⟨x, hx⟩ : ∃ x, (ordS D D.length)[k - 1]? = some x := ⟨_, List.getElem?_eq_getElem (by omega)⟩
        obtain ⟨b1, b2, -⟩ := o.at ok hr hx
        rw [show (k : Int) - 1 = ((k - 1 : Nat) : Int) by omega, b1, b2, a1, a2, if_pos ((tCmp_lt hr hl.pos x y).mpr (ordS_srt hl.pos _ (k - 1) k x y (by omega) hx hy))]
        decide
  exact key V'.2.1 0 (by omega)
