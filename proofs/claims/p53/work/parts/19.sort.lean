/-! putInOrder. -/
theorem ordS_rg {D : mt_D} (hl : ∀ k, lenD D k ≤ 40) (hD : D.length ≤ 12) {s : Nat} (hs : s ≤ D.length) : ∀ y ∈ ordS D s, y.1 < 12 ∧ y.2 < 40 := fun y hy => by
  have h := (ordS_mem s).mp hy
  have := hl y.1
  omega
theorem totD_le {D : mt_D} (hl : ∀ k, lenD D k ≤ 40) : ∀ s : Nat, totD D s ≤ 40 * s
  | 0 => Nat.le_refl _
  | s + 1 => by
    have := totD_le hl s
    have := hl s
    simp only [totD]
    omega
theorem totD_mono {D : mt_D} {a : Nat} : ∀ b : Nat, a ≤ b → totD D a ≤ totD D b
  | 0, h => by rw [show a = 0 by omega]; exact Nat.le_refl _
  | b + 1, h => by
    by_cases c : a = b + 1
    · rw [c]; exact Nat.le_refl _
    · have := totD_mono (D := D) (a := a) b (by omega)
      simp only [totD]
      omega
/-- the places of one slot -/
theorem j9_in {D : mt_D} {T : mt_T} {v s : Nat} {fr_ : (Nat → Int) × (Nat → Int)} (ok : okT T) (hr : rep T D) (hp : posD D) (hs : s < D.length) : ∀ (n p : Nat), p + n = lenD D s → ∀ (σ : mx_S) (f : Nat → Int), sB σ ≤ v → isV σ v (T, (ordP D (ordS D s) s p).length, 0, f, fr_) → repC f (ordP D (ordS D s) s p) →
    ∃ (σ' : mx_S) (f' : Nat → Int), isV σ' v (T, (ordS D (s + 1)).length, 0, f', fr_) ∧ repC f' (ordS D (s + 1)) ∧ fr v (v + 8) σ σ' ∧ ∀ (kb wb : Nat) (Q : mx_R → Prop), sK σ ≤ kb → sW σ ≤ wb → mx_J Y9_putInOrder kb wb 15 [some (mR v), some (mI ((s + 1 : Nat) : Int)), none] [] σ' Q → mx_J Y9_putInOrder kb wb 28 [some (mR v), some (mI (s : Int)), some (mI (p : Int))] [] σ Q := by
  have hl := rep_len hr
  intro n
  induction n with
  | zero =>
    intro p e σ f hb h hc
    have e0 : p = lenD D s := by omega
    subst e0
    refine ⟨σ, f, h, hc, fr.rf, fun kb wb Q hk hw K => ?_⟩
    refine B_Y9_putInOrder_28 ⟨_, h.1, _, rfl, _, h.2.1.1, _, _, c8_sizeAt h.2.1 _, hk, hw, fun _ => ?_, fun c => absurd ?_ c⟩
    · have := hr.2.1
      rw [mx_w_id (x := (s : Int) + 1) (by omega) (by omega)]
      exact K
    · show tSize T s ≤ _
      rw [rep_size hr]
      exact Int.le_refl _
  | succ n ih =>
    intro p e σ f hb h hc
    have hs0 := ordS_srt hp s
    have hm0 : ∀ y ∈ ordS D s, y.2 < lenD D y.1 ∧ y.1 < s := fun y hy => by have := (ordS_mem s).mp hy; exact ⟨this.2, this.1⟩
    have h12 := hr.2.1
    have hlen : (ordP D (ordS D s) s p).length < 480 := by
      rw [ordP_len, ordS_len]
      have := totD_le hl s
      have := hl s
      omega
    obtain ⟨σ1, f1, w1, r1, F1, m1⟩ := c9_putIn (x := (s, p)) h hb ok hr hp rfl hlen hc (ordP_srt hp hs0 hm0 p (by omega)) ⟨by show s < 12; omega, by have := hl s; show p < 40; omega⟩
    have w1' : isV σ1 v (T, (ordP D (ordS D s) s (p + 1)).length, 0, f1, fr_) := by
      rw [ordP_len] at w1 ⊢
      exact w1
    obtain ⟨σ2, f2, w2, r2, F2, K2⟩ := ih (p + 1) (by omega) σ1 f1 (by rw [F1.1]; exact hb) w1' r1
    refine ⟨σ2, f2, w2, r2, F1.tr F2, fun kb wb Q hk hw K => ?_⟩
    have hk1 : sK σ1 ≤ kb := by rw [F1.2.2.1]; exact hk
    have hw1 : sW σ1 ≤ wb := by rw [F1.2.2.2.1]; exact hw
    refine B_Y9_putInOrder_28 ⟨_, h.1, _, rfl, _, h.2.1.1, _, _, c8_sizeAt h.2.1 _, hk, hw, fun c => absurd c ?_, fun _ => ⟨_, h.1, σ1, m1, hk1, hw1, ?_⟩⟩
    · show ¬ tSize T s ≤ _
      rw [rep_size hr]
      omega
    · have := hl s
      rw [mx_w_id (x := (p : Int) + 1) (by omega) (by omega)]
      exact K2 kb wb Q hk1 hw1 K
theorem j9_out {D : mt_D} {T : mt_T} {v : Nat} {fr_ : (Nat → Int) × (Nat → Int)} (ok : okT T) (hr : rep T D) (hp : posD D) : ∀ (n s : Nat), s + n = D.length → ∀ (σ : mx_S) (f : Nat → Int), sB σ ≤ v → isV σ v (T, (ordS D s).length, 0, f, fr_) → repC f (ordS D s) →
    ∃ (σ' : mx_S) (f' : Nat → Int), isV σ' v (T, (ordS D D.length).length, 1, f', fr_) ∧ repC f' (ordS D D.length) ∧ fr v (v + 8) σ σ' ∧ ∀ (kb wb : Nat) (Q : mx_R → Prop), sK σ ≤ kb → sW σ ≤ wb → mx_J Y9_putInOrder kb wb 65 [some (mR v), some (mI 0), none] [] σ' Q → mx_J Y9_putInOrder kb wb 15 [some (mR v), some (mI (s : Int)), none] [] σ Q := by
  intro n
  induction n with
  | zero =>
    intro s e σ f hb h hc
    have e0 : s = D.length := by omega
    subst e0
    refine ⟨mx_wr σ v (.inl (9, [mR (v + 1), mR (v + 5), mR (v + 6), mR (v + 7), mI ((ordS D D.length).length : Int), mI 1])), f, ⟨wr_at, h.2.1.kp (fun q q1 q2 => wr_ne (by omega)), (wr_ne (by omega)).trans h.2.2.1, (wr_ne (by omega)).trans h.2.2.2.1, (wr_ne (by omega)).trans h.2.2.2.2⟩, hc, fr.wr (by omega) (by omega), fun kb wb Q hk hw K => ?_⟩
    refine B_Y9_putInOrder_15 ⟨_, h.1, _, rfl, _, h.2.1.1, _, _, c8_many h.2.1, hk, hw, fun _ => ⟨_, h.1, Nat.le_of_ble_eq_true rfl, hb, fun σ1 e1 => ?_⟩, fun c => absurd ?_ c⟩
    · subst e1
      exact K
    · show (T.1 : Int) ≤ _
      have := hr.1
      omega
  | succ n ih =>
    intro s e σ f hb h hc
    obtain ⟨σ1, f1, w1, r1, F1, K1⟩ := j9_in ok hr hp (s := s) (by omega) (lenD D s) 0 (by omega) σ f hb h hc
    obtain ⟨σ2, f2, w2, r2, F2, K2⟩ := ih (s + 1) (by omega) σ1 f1 (by rw [F1.1]; exact hb) w1 r1
    refine ⟨σ2, f2, w2, r2, F1.tr F2, fun kb wb Q hk hw K => ?_⟩
    refine B_Y9_putInOrder_15 ⟨_, h.1, _, rfl, _, h.2.1.1, _, _, c8_many h.2.1, hk, hw, fun c => absurd c ?_, fun _ => ?_⟩
    · show ¬ (T.1 : Int) ≤ _
      have := hr.1
      omega
    · exact K1 kb wb Q hk hw (K2 kb wb Q (by rw [F1.2.2.1]; exact hk) (by rw [F1.2.2.2.1]; exact hw) K)
/-- ranks and commons -/
theorem j9_rk {D : mt_D} {T : mt_T} {v : Nat} {f : Nat → Int} (ok : okT T) (hr : rep T D) (hp : posD D) (hc : repC f (ordS D D.length)) : ∀ (n k : Nat), k + n = (ordS D D.length).length → ∀ (σ : mx_S) (g c : Nat → Int), sB σ ≤ v → isV σ v (T, (ordS D D.length).length, 1, f, g, c) → (∀ (i : Nat) (y : Nat × Nat), i < k → (ordS D D.length)[i]? = some y → g (40 * y.1 + y.2) = i) →
    ∃ (σ' : mx_S) (g' c' : Nat → Int), isV σ' v (T, (ordS D D.length).length, 1, f, g', c') ∧ (∀ (i : Nat) (y : Nat × Nat), (ordS D D.length)[i]? = some y → g' (40 * y.1 + y.2) = i) ∧ fr v (v + 8) σ σ' ∧ ∀ (kb wb : Nat) (Q : mx_R → Prop), sK σ ≤ kb → sW σ ≤ wb → Q (.inl (none, σ')) → mx_J Y9_putInOrder kb wb 65 [some (mR v), some (mI (k : Int)), none] [] σ Q := by
  have hl := rep_len hr
  have h480 : (ordS D D.length).length ≤ 480 := by
    rw [ordS_len]
    have := totD_le hl D.length
    have := hr.2.1
    omega
  intro n
  induction n with
  | zero =>
    intro k e σ g c hb h hg
    refine ⟨σ, g, c, h, fun i y hy => hg i y (by have := (List.getElem?_eq_some_iff.mp hy).1; omega) hy, fr.rf, fun kb wb Q hk hw hQ => ?_⟩
    have hz : ((ordS D D.length).length : Int) ≤ (k : Int) := by omega
    exact B_Y9_putInOrder_65 ⟨_, h.1, _, rfl, fun _ => hQ, fun c => absurd hz c⟩
  | succ n ih =>
    intro k e σ g c hb h hg
    obtain ⟨y, hy⟩ : ∃ y, (ordS D D.length)[k]? = some y := ⟨_, List.getElem?_eq_getElem (by omega)⟩
    obtain ⟨y1, y2, y3⟩ := hc k y hy
    have okv : okV (T, (ordS D D.length).length, 1, f, g, c) := ⟨ok, h480, fun i hi => by
      obtain ⟨z1, z2, z3⟩ := hc i _ (List.getElem?_eq_getElem hi)
      show 0 ≤ f i ∧ f i < 480
      omega⟩
    have h1 : isV (mx_wr σ (v + 6) (.inr (0, 480, fun j => mI (if j = 40 * y.1 + y.2 then (k : Int) else g j)))) v (T, (ordS D D.length).length, 1, f, fun j => if j = 40 * y.1 + y.2 then (k : Int) else g j, c) :=
      ⟨(wr_ne (by omega)).trans h.1, h.2.1.kp (fun q q1 q2 => wr_ne (by omega)), (wr_ne (by omega)).trans h.2.2.1, wr_at, (wr_ne (by omega)).trans h.2.2.2.2⟩
    have F1 : fr v (v + 8) σ (mx_wr σ (v + 6) (.inr (0, 480, fun j => mI (if j = 40 * y.1 + y.2 then (k : Int) else g j)))) := fr.wr (by omega) (by omega)
    generalize hσ1 : mx_wr σ (v + 6) (.inr (0, 480, fun j => mI (if j = 40 * y.1 + y.2 then (k : Int) else g j))) = σ1 at h1 F1
    have okv1 : okV (T, (ordS D D.length).length, 1, f, fun j => if j = 40 * y.1 + y.2 then (k : Int) else g j, c) := okv
    obtain ⟨x, hx⟩ : ∃ x : Int, x = (if k = 0 then 0 else (tSh T (vSlot (T, (ordS D D.length).length, 1, f, (fun j => if j = 40 * y.1 + y.2 then (k : Int) else g j), c) ((k : Int) - 1)) (vPlace (T, (ordS D D.length).length, 1, f, (fun j => if j = 40 * y.1 + y.2 then (k : Int) else g j), c) ((k : Int) - 1)) (vSlot (T, (ordS D D.length).length, 1, f, (fun j => if j = 40 * y.1 + y.2 then (k : Int) else g j), c) k) (vPlace (T, (ordS D D.length).length, 1, f, (fun j => if j = 40 * y.1 + y.2 then (k : Int) else g j), c) k) : Int)) := ⟨_, rfl⟩
    have h2 : isV (mx_wr σ1 (v + 7) (.inr (0, 480, fun j => mI (if j = k then x else c j)))) v (T, (ordS D D.length).length, 1, f, fun j => if j = 40 * y.1 + y.2 then (k : Int) else g j, fun j => if j = k then x else c j) :=
      ⟨(wr_ne (by omega)).trans h1.1, h1.2.1.kp (fun q q1 q2 => wr_ne (by omega)), (wr_ne (by omega)).trans h1.2.2.1, (wr_ne (by omega)).trans h1.2.2.2.1, wr_at⟩
    have F2 : fr v (v + 8) σ1 (mx_wr σ1 (v + 7) (.inr (0, 480, fun j => mI (if j = k then x else c j)))) := fr.wr (by omega) (by omega)
    obtain ⟨σ3, g3, c3, w3, r3, F3, K3⟩ := ih (k + 1) (by omega) _ _ _ (by rw [F2.1, F1.1]; exact hb) h2 (fun i z hi hz => by
      by_cases d : i = k
      · subst d
        rw [hy] at hz
        cases hz
        exact if_pos rfl
      · have q : 40 * z.1 + z.2 ≠ 40 * y.1 + y.2 := fun q => by
          obtain ⟨z1, z2, z3⟩ := hc i z hz
          have e9 : z = y := Prod.ext (by omega) (by omega)
          rw [e9] at hz
          exact d (srt_inj (ordS_srt hp _) hz hy)
        show (if 40 * z.1 + z.2 = 40 * y.1 + y.2 then _ else _) = _
        rw [if_neg q]
        exact hg i z (by omega) hz)
    refine ⟨σ3, g3, c3, w3, r3, (F1.tr F2).tr F3, fun kb wb Q hk hw hQ => ?_⟩
    have hk1 : sK σ1 ≤ kb := by rw [F1.2.2.1]; exact hk
    have hw1 : sW σ1 ≤ wb := by rw [F1.2.2.2.1]; exact hw
    have e1 : mx_w ((k : Int) + 1) = ((k + 1 : Nat) : Int) := by rw [mx_w_id (by omega) (by omega)]; omega
    have e2 : mx_w ((k : Int) - 1) = (k : Int) - 1 := mx_w_id (by omega) (by omega)
    have K := K3 kb wb Q (by rw [F2.2.2.1]; exact hk1) (by rw [F2.2.2.2.1]; exact hw1) hQ
    have L : ∀ (z w : Int), z = x → mx_J Y9_putInOrder kb wb 149 [some (mR v), some (mI (k : Int)), some (mI w)] [mI z, mI (k : Int), mR (v + 7)] σ1 Q := fun z w hz => by
      subst hz
      refine B_Y9_putInOrder_149 ⟨_, _, h1.2.2.2.2, by rw [F1.1]; omega, by omega, by omega, fun σ4 e4 => ?_⟩
      rw [up_I, Int.toNat_natCast] at e4
      subst e4
      rw [e1]
      exact K
    refine B_Y9_putInOrder_65 ⟨_, h.1, _, rfl, fun c => absurd c (by show ¬ (((ordS D D.length).length : Int) ≤ k); omega), fun _ => ⟨fun c => absurd c (by omega), fun _ => ⟨_, h.1, _, rfl, _, _, h.2.2.1, by omega, by omega, _, rfl, ?_⟩⟩⟩
    rw [Int.toNat_natCast]
    dsimp only
    rw [y1]
    refine ⟨fun c => absurd c (by omega), fun _ => ⟨fun c => absurd c (by omega), fun _ => ⟨_, h.1, _, rfl, _, _, h.2.2.2.1, by omega, by omega, by omega, fun σ2 e2' => ?_⟩⟩⟩
    rw [up_I, show ((40 : Int) * (y.1 : Int) + y.2).toNat = 40 * y.1 + y.2 by omega] at e2'
    have e9 : σ2 = σ1 := e2'.trans hσ1
    subst e9
    refine B_Y9_putInOrder_105 ⟨_, h1.1, _, rfl, fun d => ⟨_, h1.1, _, rfl, _, h1.1, ?_⟩, fun d => L 0 _ ?_⟩
    · rw [e2]
      have g1 := vPlace_rg okv1 ((k : Int) - 1)
      have g2 := vPlace_rg okv1 (k : Int)
      refine ⟨_, _, c9_slotAt h1 okv1 _, hk1, hw1, _, h1.1, _, _, c9_placeAt h1 okv1 _, hk1, hw1, _, h1.1, _, _, c9_slotAt h1 okv1 _, hk1, hw1, _, h1.1, _, _, c9_placeAt h1 okv1 _, hk1, hw1, _, h1.2.1.1, _, _, c8_shared h1.2.1 ok (by omega) (by omega), hk1, hw1, L _ _ ?_⟩
      rw [hx, if_neg (by omega)]
    · rw [hx, if_pos (by omega)]
def ordV (V : mt_V) (D : mt_D) : Prop := V.2.2.1 = 1 ∧ V.2.1 = (ordS D D.length).length ∧ repC V.2.2.2.1 (ordS D D.length) ∧ ∀ (i : Nat) (y : Nat × Nat), (ordS D D.length)[i]? = some y → V.2.2.2.2.1 (40 * y.1 + y.2) = i
theorem c9_order {σ : mx_S} {v : Nat} {V : mt_V} {D : mt_D} (h : isV σ v V) (hb : sB σ ≤ v) (ok : okT V.1) (hr : rep V.1 D) (hp : posD D) (ho : V.2.2.1 = 0 ∨ ordV V D) : ∃ (σ' : mx_S) (V' : mt_V), isV σ' v V' ∧ V'.1 = V.1 ∧ ordV V' D ∧ fr v (v + 8) σ σ' ∧ mx_MS Y9_putInOrder [mR v] σ (.inl (none, σ')) := by
  by_cases c0 : V.2.2.1 = 0
  · have h1 : isV (mx_wr σ v (.inl (9, [mR (v + 1), mR (v + 5), mR (v + 6), mR (v + 7), mI 0, mI V.2.2.1]))) v (V.1, (ordS D 0).length, 0, V.2.2.2.1, V.2.2.2.2) := by
      rw [c0]
      exact ⟨wr_at, h.2.1.kp (fun q q1 q2 => wr_ne (by omega)), (wr_ne (by omega)).trans h.2.2.1, (wr_ne (by omega)).trans h.2.2.2.1, (wr_ne (by omega)).trans h.2.2.2.2⟩
    have F1 : fr v (v + 8) σ (mx_wr σ v (.inl (9, [mR (v + 1), mR (v + 5), mR (v + 6), mR (v + 7), mI 0, mI V.2.2.1]))) := fr.wr (by omega) (by omega)
    generalize hσ1 : mx_wr σ v (.inl (9, [mR (v + 1), mR (v + 5), mR (v + 6), mR (v + 7), mI 0, mI V.2.2.1])) = σ1 at h1 F1
    obtain ⟨σ2, f2, w2, r2, F2, K2⟩ := j9_out ok hr hp D.length 0 (by omega) σ1 _ (by rw [F1.1]; exact hb) h1 (fun i y hy => by simp [ordS] at hy)
    obtain ⟨σ3, g3, c3, w3, r3, F3, K3⟩ := j9_rk ok hr hp r2 (ordS D D.length).length 0 (by omega) σ2 _ _ (by rw [F2.1, F1.1]; exact hb) w2 (fun i y hi => absurd hi (by omega))
    have F := (F1.tr F2).tr F3
    refine ⟨σ3, _, w3, rfl, ⟨rfl, rfl, r2, r3⟩, F, ?_⟩
    refine mx_retE (by decide) rfl (Nat.le_of_ble_eq_true rfl) F.1 (by rw [F.2.2.1]; exact Nat.le_refl _) (by rw [F.2.2.2.1]; exact Nat.le_refl _) fun kb wb Q hk hw hQ => ?_
    have hk0 : sK σ ≤ kb := by rw [← F.2.2.1]; exact hk
    have hw0 : sW σ ≤ wb := by rw [← F.2.2.2.1]; exact hw
    refine B_Y9_putInOrder_0 ⟨_, h.1, _, rfl, fun _ => ⟨_, h.1, Nat.le_of_ble_eq_true rfl, hb, fun σa ea => ?_⟩, fun c => absurd c0 c⟩
    have ea : σa = σ1 := ea.trans hσ1
    subst ea
    exact K2 kb wb Q (by rw [F1.2.2.1]; exact hk0) (by rw [F1.2.2.2.1]; exact hw0) (K3 kb wb Q (by rw [F2.2.2.1, F1.2.2.1]; exact hk0) (by rw [F2.2.2.2.1, F1.2.2.2.1]; exact hw0) hQ)
  · refine ⟨σ, V, h, rfl, ho.resolve_left c0, fr.rf, ?_⟩
    refine mx_pure (by decide) rfl (Nat.le_of_ble_eq_true rfl) fun kb wb Q hk hw hQ => ?_
    exact B_Y9_putInOrder_0 ⟨_, h.1, _, rfl, fun c => absurd c c0, fun _ => hQ⟩
