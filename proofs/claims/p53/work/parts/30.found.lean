/-! found; the law's own helpers. -/
theorem ctD_mono {D : mt_D} {q : Nat × Nat → Bool} {a : Nat} : ∀ b : Nat, a ≤ b → ctD D q a ≤ ctD D q b
  | 0, h => by rw [show a = 0 by omega]; exact Nat.le_refl _
  | b + 1, h => by
    by_cases c : a = b + 1
    · rw [c]; exact Nat.le_refl _
    · have := ctD_mono (D := D) (q := q) (a := a) b (by omega)
      simp only [ctD]
      omega
theorem j10_found {σ : mx_S} {o a : Nat} {R : mt_R} {A : mt_H} {V : mt_V} {D1 : mt_D} {w : List Int} (hO : isO σ o R A) (v : isV σ a V) (ok : okT V.1) (hr : rep V.1 D1) (hd : dOK D1) (okr : okR R) (hw : repR R w) (hl : letW w) (x idx e : Int) {n0 k : Nat} (hk1 : k ≤ D1.length) (hn0 : ctD D1 (fdB D1 w) k ≤ n0) (h1000 : n0 ≤ 1000) {kb wb : Nat} {Q : mx_R → Prop} (hk : sK σ ≤ kb) (hw9 : sW σ ≤ wb)
    (K : mx_J Y10_found kb wb 20 [some (mR o), some (mI x), some (mI idx), some (mI e), some (mR (a + 1)), some (mI ((n0 - ctD D1 (fdB D1 w) k : Nat) : Int)), some (mI (k : Int)), none, none, none] [] σ Q) : ∀ (n s : Nat), s + n = k → mx_J Y10_found kb wb 20 [some (mR o), some (mI x), some (mI idx), some (mI e), some (mR (a + 1)), some (mI ((n0 - ctD D1 (fdB D1 w) s : Nat) : Int)), some (mI (s : Int)), none, none, none] [] σ Q
  | 0, s, h => by
    rw [show s = k by omega]
    exact K
  | n + 1, s, h => by
    have ih := j10_found hO v ok hr hd okr hw hl x idx e hk1 hn0 h1000 hk hw9 K n (s + 1) (by omega)
    have h1 := hr.1
    have h3 := hd.2.2.1
    have b3 := hd.2.2.2 s
    have b2 := cn_le (fun p => fdB D1 w (s, p)) (lenD D1 s)
    have b4 := ctD_mono (D := D1) (q := fdB D1 w) (a := s + 1) k (by omega)
    simp only [ctD] at b4 ih
    obtain ⟨⟨x2, x3, x4, x5, x6, c, q0, q1, q2⟩, q3, q4⟩ := hO
    refine B_Y10_found_20 ⟨_, v.2.1.1, _, _, c8_many v.2.1, hk, hw9, fun d => absurd d (by omega), fun _ => ⟨fun d => absurd d (by omega), fun _ => ⟨_, q2, _, rfl, _, v.2.1.1, _, _, c8_fd v.2.1 ok hr hd q3 okr hw hl s, hk, hw9, _, _, cJ_bits (bc_mk _ b3), hk, hw9, fun _ => ?_, fun d => absurd (by omega) d⟩⟩⟩
    rw [mx_w_id (x := (s : Int) + 1) (by omega) (by omega), show mx_w (((n0 - ctD D1 (fdB D1 w) s : Nat) : Int) - (cn (fun p => fdB D1 w (s, p)) (lenD D1 s) : Nat)) = ((n0 - (ctD D1 (fdB D1 w) s + cn (fun p => fdB D1 w (s, p)) (lenD D1 s)) : Nat) : Int) by rw [mx_w_id (by omega) (by omega)]; omega]
    exact ih
theorem S_found {σ : mx_S} {o : Nat} {w : List Int} {D : mt_D} {E : Option mt_D} {b : Bool} {x : Int} {D1 : mt_D} (h : hS σ o w D E b) (hv : vS D E x D1) (hn : 0 < w.length) {k p : Nat} (hk9 : k < D1.length) (hp9 : p < lenD D1 k) (hf : fdB D1 w (k, p) = true) (e : Int) : mx_MSN YL_found [mR o, mI x, mI ((ctD D1 (fdB D1 w) k + cn (fun p => fdB D1 w (k, p)) p : Nat) : Int), mI e] σ (some (mI (if e = 0 then (k : Int) else (p : Int)))) σ := by
  obtain ⟨R, A, hO, okr, hw, hl, hh⟩ := h
  obtain ⟨a, V, hM, l1, l2, v, ⟨ok, hr, ho⟩, hd, put⟩ := lens hO hh hv
  have hN := c10_nView hO hM
  have hP := c10_simple hO okr hw hl hn
  have b3 := hd.2.2.2 k
  have b2 := cn_le (fun p => fdB D1 w (k, p)) p
  have b5 := ctD_le (rep_len hr) (fdB D1 w) k
  have h3 := hd.2.2.1
  have h1 := hr.1
  have hlt : cn (fun p => fdB D1 w (k, p)) p < cn (fun p => fdB D1 w (k, p)) (lenD D1 k) := by
    have := cn_mono (p := fun p => fdB D1 w (k, p)) (a := p + 1) (lenD D1 k) (by omega)
    simp only [cn] at this
    rw [if_pos hf] at this
    omega
  have hO9 := hO
  obtain ⟨⟨x2, x3, x4, x5, x6, c, q0, q1, q2⟩, q3, q4⟩ := hO
  refine mx_MSN_of ?_
  have inner : mx_MS Y10_found [mR o, mI x, mI ((ctD D1 (fdB D1 w) k + cn (fun p => fdB D1 w (k, p)) p : Nat) : Int), mI e] σ (.inl (some (mI (if e = 0 then (k : Int) else (p : Int))), σ)) := by
    refine mx_pure (by decide) rfl (Nat.le_of_ble_eq_true rfl) fun kb wb Q hk hw9 hQ => ?_
    refine B_Y10_found_0 ⟨_, q2, Or.inl ⟨_, _, hN, hk, hw9, _, v.1, _, _, c9_texts v, hk, hw9, _, q2, Or.inl ⟨_, hP, hk, hw9, ?_⟩⟩⟩
    refine j10_found (n0 := ctD D1 (fdB D1 w) k + cn (fun p => fdB D1 w (k, p)) p) hO9 v ok hr hd okr hw hl x _ e (k := k) (by omega) (by omega) (by omega) hk hw9 ?_ k 0 (by omega)
    have e9 : ((ctD D1 (fdB D1 w) k + cn (fun p => fdB D1 w (k, p)) p - ctD D1 (fdB D1 w) k : Nat) : Int) = (cn (fun p => fdB D1 w (k, p)) p : Nat) := by omega
    rw [e9]
    refine B_Y10_found_20 ⟨_, v.2.1.1, _, _, c8_many v.2.1, hk, hw9, fun d => absurd d (by omega), fun _ => ⟨fun d => absurd d (by omega), fun _ => ⟨_, q2, _, rfl, _, v.2.1.1, _, _, c8_fd v.2.1 ok hr hd q3 okr hw hl k, hk, hw9, _, _, cJ_bits (bc_mk _ b3), hk, hw9, fun d => absurd d (by omega), fun _ => ⟨fun d => ?_, fun d => ?_⟩⟩⟩⟩
    · rw [if_pos d] at hQ
      rw [← rep_num hr hk9] at hQ
      exact ⟨_, v.2.1.1, _, _, c8_numberAt v.2.1 _, hk, hw9, hQ⟩
    · rw [if_neg d] at hQ
      exact ⟨_, _, c10_bit b3 hp9 hf, hk, hw9, hQ⟩
  refine mx_retEH (by decide) (List.cons_ne_nil _ _) (Nat.le_of_ble_eq_true rfl) rfl (Nat.le_refl _) (Nat.le_refl _) fun kb wb Q hk hw hQ => ?_
  exact B_YL_found_0 ⟨_, q2, Or.inl ⟨_, _, inner, hk, hw, hQ⟩⟩
theorem S_foundX {σ : mx_S} {o : Nat} {w : List Int} {D : mt_D} {E : Option mt_D} {b : Bool} {x : Int} {D1 : mt_D} (h : hS σ o w D E b) (hv : vS D E x D1) (hn : 0 < w.length) (e : Int) : hS (mx_ex σ) o w D E b ∧ fx o σ (mx_ex σ) ∧ mx_MSN YL_found [mR o, mI x, mI ((ctD D1 (fdB D1 w) D1.length : Nat) : Int), mI e] σ (some (mI (-900003))) (mx_ex σ) := by
  refine ⟨h.kp (fun _ _ _ => rfl), fx_ofX fr.rf, ?_⟩
  obtain ⟨R, A, hO, okr, hw, hl, hh⟩ := h
  obtain ⟨a, V, hM, l1, l2, v, ⟨ok, hr, ho⟩, hd, put⟩ := lens hO hh hv
  have hN := c10_nView hO hM
  have hP := c10_simple hO okr hw hl hn
  have b5 := ctD_le (rep_len hr) (fdB D1 w) D1.length
  have h3 := hd.2.2.1
  have h1 := hr.1
  have hO9 := hO
  obtain ⟨⟨x2, x3, x4, x5, x6, c, q0, q1, q2⟩, q3, q4⟩ := hO
  have inner : mx_MS Y10_found [mR o, mI x, mI ((ctD D1 (fdB D1 w) D1.length : Nat) : Int), mI e] σ (.inr ("java/util/NoSuchElementException", mx_ex σ)) := by
    refine mx_thrE (by decide) rfl (Nat.le_of_ble_eq_true rfl) rfl (Nat.le_add_right _ _) (Nat.le_add_right _ _) fun kb wb Q hk hw9 hQ => ?_
    have hk0 : sK σ ≤ kb := Nat.le_trans (Nat.le_add_right _ _) hk
    have hw0 : sW σ ≤ wb := Nat.le_trans (Nat.le_add_right _ _) hw9
    refine B_Y10_found_0 ⟨_, q2, Or.inl ⟨_, _, hN, hk0, hw0, _, v.1, _, _, c9_texts v, hk0, hw0, _, q2, Or.inl ⟨_, hP, hk0, hw0, ?_⟩⟩⟩
    refine j10_found (n0 := ctD D1 (fdB D1 w) D1.length) hO9 v ok hr hd okr hw hl x _ e (k := D1.length) (Nat.le_refl _) (Nat.le_refl _) (by omega) hk0 hw0 ?_ D1.length 0 (by omega)
    exact B_Y10_found_20 ⟨_, v.2.1.1, _, _, c8_many v.2.1, hk0, hw0, fun _ => B_Y10_found_97 ⟨hk, hw9, hQ⟩, fun d => absurd (by omega) d⟩
  refine mx_retEN (by decide) (List.cons_ne_nil _ _) (Nat.le_of_ble_eq_true rfl) rfl (Nat.le_add_right _ _) (Nat.le_add_right _ _) fun kb wb Q hk hw hQ => ?_
  exact B_YL_found_0 ⟨_, q2, Or.inr (Or.inr (Or.inr ⟨_, inner, hk, hw, fun n q6 s7 hn e => by subst e; exact hQ n hn⟩))⟩
/-- the script -/
def scr (σ : mx_S) (b : Nat) : Prop := ∃ (n : Nat) (f : Nat → mx_V), sH σ b = some (.inr (0, n, f)) ∧ ∀ j : Nat, j < n → ∃ x : Int, f j = mI x
def cellE (x i : Int) : Int := mx_xor (mx_w (mx_xor (mx_w (mx_w (69069 * mx_w (x + mx_w (1009 * i))) + 12345)) (mx_ushr (mx_w (mx_w (69069 * mx_w (x + mx_w (1009 * i))) + 12345)) 13) * 1103515245)) (mx_ushr (mx_w (mx_xor (mx_w (mx_w (69069 * mx_w (x + mx_w (1009 * i))) + 12345)) (mx_ushr (mx_w (mx_w (69069 * mx_w (x + mx_w (1009 * i))) + 12345)) 13) * 1103515245)) 16)
theorem kL_cell {σ : mx_S} {b : Nat} (h : scr σ b) {i : Nat} : ∃ r : Int, mx_MS YL_cell [mR b, mI (i : Int)] σ (.inl (some (mI r), σ)) := by
  obtain ⟨n, f, h1, h2⟩ := h
  by_cases c : n ≤ i
  · refine ⟨cellE 0 i, mx_pure (by decide) rfl (Nat.le_of_ble_eq_true rfl) fun kb wb Q hk hw hQ => ?_⟩
    exact B_YL_cell_0 ⟨_, _, _, h1, fun _ => B_YL_cell_15 hQ, fun d => absurd (by omega) d⟩
  · obtain ⟨x, hx⟩ := h2 i (by omega)
    refine ⟨cellE x i, mx_pure (by decide) rfl (Nat.le_of_ble_eq_true rfl) fun kb wb Q hk hw hQ => ?_⟩
    exact B_YL_cell_0 ⟨_, _, _, h1, fun d => absurd d (by omega), fun _ => ⟨_, _, h1, by omega, by omega, x, by rw [Int.toNat_natCast]; exact hx, B_YL_cell_15 hQ⟩⟩
theorem mx_and_nn (x : Int) : 0 ≤ mx_and x 2147483647 ∧ mx_and x 2147483647 ≤ 2147483647 := by
  unfold mx_and
  have h1 : (Int32.ofInt x &&& Int32.ofInt 2147483647).toBitVec.msb = false := by
    rw [Int32.toBitVec_and, BitVec.msb_and]
    have : (Int32.ofInt 2147483647).toBitVec.msb = false := by decide
    rw [this, Bool.and_false]
  have h2 : (Int32.ofInt x &&& Int32.ofInt 2147483647).toInt = ((Int32.ofInt x &&& Int32.ofInt 2147483647).toBitVec.toNat : Int) := BitVec.toInt_eq_toNat_of_msb h1
  have h3 := Int32.toInt_lt (Int32.ofInt x &&& Int32.ofInt 2147483647)
  refine ⟨?_, by omega⟩
  rw [h2]
  exact Int.natCast_nonneg _
theorem kL_in {σ : mx_S} {b : Nat} (h : scr σ b) (i : Nat) {n : Int} (hn : 0 < n ∧ n ≤ 1000) : ∃ r : Nat, (r : Int) < n ∧ mx_MS YL_in [mR b, mI (i : Int), mI n] σ (.inl (some (mI (r : Int)), σ)) := by
  obtain ⟨r, m⟩ := kL_cell h (i := i)
  obtain ⟨a1, a2⟩ := mx_and_nn r
  have h3 : 0 ≤ mx_and r 2147483647 % n := Int.emod_nonneg _ (by omega)
  have h4 : mx_and r 2147483647 % n < n := Int.emod_lt_of_pos _ hn.1
  refine ⟨(mx_and r 2147483647 % n).toNat, by omega, ?_⟩
  refine mx_pureI (by decide) rfl (Nat.le_of_ble_eq_true rfl) fun kb wb Q hk hw hQ => ?_
  exact B_YL_in_0 ⟨_, _, m, hk, hw, by omega, hQ _ (by rw [mx_rem_nn ⟨a1, a2⟩ (by omega)]; omega)⟩
/-- a row of letters as an array -/
def isC (σ : mx_S) (a : Nat) (w : List Int) : Prop := ∃ g : Nat → Int, sH σ a = some (.inr (1, w.length, fun j => mI (g j))) ∧ ∀ j : Nat, j < w.length → g j = w.getD j 0
theorem isC.kp {σ σ' : mx_S} {a : Nat} {w : List Int} (h : isC σ a w) (k : sH σ' a = sH σ a) : isC σ' a w := by
  obtain ⟨g, h1, h2⟩ := h
  exact ⟨g, k.trans h1, h2⟩
theorem getD_app1 {w : List Int} {x : Int} {j : Nat} (h : j < w.length) : (w ++ [x]).getD j 0 = w.getD j 0 := by
  rw [List.getD_eq_getElem?_getD, List.getD_eq_getElem?_getD, List.getElem?_append_left h]
theorem getD_app2 {w : List Int} {x : Int} : (w ++ [x]).getD w.length 0 = x := by
  rw [List.getD_eq_getElem?_getD, List.getElem?_append_right (Nat.le_refl _), Nat.sub_self]
  rfl
/-- letters of the law's own texts -/
def let3 (w : List Int) : Prop := ∀ x ∈ w, 97 ≤ x ∧ x ≤ 99
theorem let3.W {w : List Int} (h : let3 w) : letW w := fun x hx => by have := h x hx; omega
theorem let3_app {w : List Int} {x : Int} (h : let3 w) (hx : 97 ≤ x ∧ x ≤ 99) : let3 (w ++ [x]) := fun y hy => by
  rcases List.mem_append.mp hy with q | q
  · exact h y q
  · simp at q
    rw [q]
    exact hx
theorem jL_typed {o a b : Nat} {D : mt_D} {E : Option mt_D} {bb : Bool} {fm m : Nat} (ha : o + 85 ≤ a) (hb9 : b < o) (hfm : fm ≤ 1000) (hm : m ≤ 20) : ∀ (n : Nat) (w : List Int), w.length + n = m → let3 w → ∀ σ : mx_S, sB σ ≤ o → scr σ b → hS σ o w D E bb → (∃ g : Nat → Int, sH σ a = some (.inr (1, m, fun j => mI (g j))) ∧ ∀ j : Nat, j < w.length → g j = w.getD j 0) →
    ∃ (σ' : mx_S) (w' : List Int), w'.length = m ∧ hS σ' o w' D E bb ∧ let3 w' ∧ isC σ' a w' ∧ sB σ' = sB σ ∧ sN σ' = sN σ ∧ sK σ' = sK σ ∧ sW σ' = sW σ ∧ (∀ q, q ≠ a → (q < o ∨ o + 85 ≤ q) → sH σ' q = sH σ q) ∧ ∀ (kb wb : Nat) (Q : mx_R → Prop) (h5 : Int), sK σ ≤ kb → sW σ ≤ wb → Q (.inl (some (mR a), σ')) → mx_J YL_typed kb wb 14 [some (mR o), some (mR b), some (mI (fm : Int)), some (mI (m : Int)), some (mR a), some (mI h5), some (mI (w.length : Int))] [] σ Q := by
  intro n
  induction n with
  | zero =>
    intro w hw hl σ hsb hs h hc
    obtain ⟨g, g1, g2⟩ := hc
    have hw : w.length = m := by omega
    rw [← hw] at g1
    refine ⟨σ, w, hw, h, hl, ⟨g, g1, g2⟩, rfl, rfl, rfl, rfl, fun _ _ _ => rfl, fun kb wb Q h5 hk hw9 hQ => ?_⟩
    exact B_YL_typed_14 ⟨fun _ => hQ, fun d => absurd (by omega) d⟩
  | succ n ih =>
    intro w hw hl σ hsb hs h hc
    obtain ⟨g, g1, g2⟩ := hc
    obtain ⟨r, r1, m1⟩ := kL_in hs (fm + w.length) (n := 3) (by omega)
    obtain ⟨s1, e1⟩ : ∃ s, s = mx_wr σ a (.inr (1, m, fun j => mI (if j = w.length then 97 + (r : Int) else g j))) := ⟨_, rfl⟩
    have k1 : ∀ q, q ≠ a → sH s1 q = sH σ q := fun q hq => of_wr e1 hq
    have h1 : hS s1 o w D E bb := h.kp (fun q q1 q2 => k1 q (by omega))
    have a1 : sH s1 a = some (.inr (1, m, fun j => mI (if j = w.length then 97 + (r : Int) else g j))) := of_wrA e1
    obtain ⟨s2, h2, F2, m2⟩ := S_type h1 (by rw [e1]; exact hsb) (by omega) (x := 97 + (r : Int)) (by omega)
    have hs2 : scr s2 b := by
      obtain ⟨n9, f9, x1, x2⟩ := hs
      exact ⟨n9, f9, (F2.at (by omega)).trans ((k1 b (by omega)).trans x1), x2⟩
    obtain ⟨σ', w', p1, p2, p3, p4, p5, p6, p7, p8, p9, p10⟩ := ih (w ++ [97 + (r : Int)]) (by rw [List.length_append]; show w.length + 1 + n = m; omega) (let3_app hl (by omega)) s2 (by rw [F2.1, e1]; exact hsb) hs2 h2 ⟨_, (F2.at (by omega)).trans a1, fun j hj => by
      rw [List.length_append] at hj
      have hj : j < w.length + 1 := hj
      by_cases c : j = w.length
      · rw [if_pos c, c, getD_app2]
      · rw [if_neg c, getD_app1 (by omega)]
        exact g2 j (by omega)⟩
    refine ⟨σ', w', p1, p2, p3, p4, by rw [p5, F2.1, e1]; rfl, by rw [p6, F2.2.1, e1]; rfl, by rw [p7, F2.2.2.1, e1]; rfl, by rw [p8, F2.2.2.2.1, e1]; rfl, fun q h9 hq => (p9 q h9 hq).trans ((F2.at hq).trans (k1 q h9)), fun kb wb Q h5 hk hw9 hQ => ?_⟩
    have hk2 : sK s2 ≤ kb := by rw [F2.2.2.1, e1]; exact hk
    have hw2 : sW s2 ≤ wb := by rw [F2.2.2.2.1, e1]; exact hw9
    have e2 : mx_w ((fm : Int) + w.length) = ((fm + w.length : Nat) : Int) := by rw [mx_w_id (by omega) (by omega)]; omega
    have e3 : mx_i2c (mx_w (97 + (r : Int))) = 97 + (r : Int) := by
      rcases (show r = 0 ∨ r = 1 ∨ r = 2 by omega) with rfl | rfl | rfl <;> decide
    have e4 : mx_w ((w.length : Int) + 1) = ((w ++ [97 + (r : Int)]).length : Int) := by
      rw [List.length_append, mx_w_id (by omega) (by omega)]
      show _ = ((w.length + 1 : Nat) : Int)
      omega
    have K := p10 kb wb Q ((w.length + 1 : Nat) : Int) hk2 hw2 hQ
    refine B_YL_typed_14 ⟨fun d => absurd d (by omega), fun _ => ?_⟩
    rw [e2]
    refine ⟨_, _, m1, hk, hw9, ?_⟩
    rw [e3, e4]
    refine ⟨_, _, g1, by omega, by omega, by omega, by omega, by omega, fun s3 e5 => ?_⟩
    rw [up_I, Int.toNat_natCast] at e5
    have e5 := e5.trans e1.symm
    subst e5
    refine ⟨_, _, a1, by omega, by omega, 97 + (r : Int), by rw [Int.toNat_natCast, if_pos rfl], _, s2, m2, hk2, hw2, K⟩
theorem S_typed {σ : mx_S} {o b : Nat} {w : List Int} {D : mt_D} {E : Option mt_D} {bb : Bool} (h : hS σ o w D E bb) (hsb : sB σ ≤ o) (hN : o + 85 ≤ sN σ) (hb9 : b < o) (hs : scr σ b) {fm m : Nat} (hfm : fm ≤ 1000) (hm : m ≤ 20) : ∃ (σ' : mx_S) (w' : List Int), w'.length = m ∧ hS σ' o w' D E bb ∧ let3 w' ∧ isC σ' (sN σ) w' ∧ sB σ' = sB σ ∧ sN σ' = sN σ + 1 ∧ sK σ' = sK σ + 1 ∧ sW σ' = sW σ + m ∧ (∀ q, q < sN σ → (q < o ∨ o + 85 ≤ q) → sH σ' q = sH σ q) ∧ mx_MS YL_typed [mR o, mR b, mI (fm : Int), mI (m : Int)] σ (.inl (some (mR (sN σ)), σ')) := by
  obtain ⟨s1, e1⟩ : ∃ s, s = mx_al σ (.inr (1, m, fun _ => mI 0)) m := ⟨_, rfl⟩
  have k1 : ∀ q, q < sN σ → sH s1 q = sH σ q := fun q hq => of_al e1 hq
  have a1 : sH s1 (sN σ) = some (.inr (1, m, fun j => mI (z0 j))) := of_alA e1 rfl
  have h1 : hS s1 o w D E bb := h.kp (fun q q1 q2 => k1 q (by omega))
  have b1 : sB s1 = sB σ := by rw [e1]; rfl
  have n1 : sN s1 = sN σ + 1 := by rw [e1]; rfl
  have c1 : sK s1 = sK σ + 1 := by rw [e1]; rfl
  have d1 : sW s1 = sW σ + m := by rw [e1]; rfl
  obtain ⟨s2, h2, F2, m2⟩ := S_wipe h1 (by rw [b1]; exact hsb)
  have hs2 : scr s2 b := by
    obtain ⟨n9, f9, x1, x2⟩ := hs
    exact ⟨n9, f9, (F2.at (by omega)).trans ((k1 b (by omega)).trans x1), x2⟩
  obtain ⟨σ', w', p1, p2, p3, p4, p5, p6, p7, p8, p9, p10⟩ := jL_typed (a := sN σ) hN hb9 hfm hm m [] (by simp) (fun x hx => by cases hx) s2 (by rw [F2.1, b1]; exact hsb) hs2 h2 ⟨z0, (F2.at (by omega)).trans a1, fun j hj => absurd hj (Nat.not_lt_zero _)⟩
  have q5 : sB σ' = sB σ := by rw [p5, F2.1, b1]
  have q6 : sN σ' = sN σ + 1 := by rw [p6, F2.2.1, n1]
  have q7 : sK σ' = sK σ + 1 := by rw [p7, F2.2.2.1, c1]
  have q8 : sW σ' = sW σ + m := by rw [p8, F2.2.2.2.1, d1]
  refine ⟨σ', w', p1, p2, p3, p4, q5, q6, q7, q8, fun q h9 hq => (p9 q (by omega) hq).trans ((F2.at hq).trans (k1 q h9)), ?_⟩
  refine mx_retE (by decide) rfl (Nat.le_of_ble_eq_true rfl) q5 (by rw [q7]; exact Nat.le_add_right _ _) (by rw [q8]; exact Nat.le_add_right _ _) fun kb wb Q hk hw hQ => ?_
  have hk2 : sK s2 ≤ kb := by rw [← p7]; exact hk
  have hw2 : sW s2 ≤ wb := by rw [← p8]; exact hw
  have hk1 : sK σ + 1 ≤ kb := by rw [← q7]; exact hk
  have hw1 : sW σ + m ≤ wb := by rw [← q8]; exact hw
  refine B_YL_typed_0 ⟨by omega, by omega, hk1, hw1, fun s3 a2 e3 e4 => ?_⟩
  have e3 : s3 = s1 := e3.trans e1.symm
  subst e3 e4
  obtain ⟨fs, hd⟩ := h1.hd
  exact ⟨fs, hd, _, s2, m2, hk2, hw2, p10 kb wb Q _ hk2 hw2 hQ⟩
theorem crL_len : ∀ {l m : List Int}, posL m → crL l m = 0 → m.length ≤ l.length
  | _, [], _, _ => Nat.zero_le _
  | [], b :: m, h, e => by have := h.hd; simp only [crL] at e; omega
  | a :: l, b :: m, h, e => by
    simp only [crL] at e
    by_cases c : a = b
    · rw [if_pos c] at e
      have := crL_len h.tl e
      simp only [List.length_cons]
      omega
    · rw [if_neg c] at e
      omega
theorem jL_isAt {σ : mx_S} {ta ra p : Nat} {d w : List Int} (ht : isC σ ta d) (hr : isC σ ra w) (hlen : p + w.length ≤ d.length) (h1000 : d.length ≤ 1000) {kb wb : Nat} {Q : mx_R → Prop} (hQ : ∀ y : Int, y = (if crL (d.drop p) w = 0 then 1 else 0) → Q (.inl (some (mI y), σ))) : ∀ (n i : Nat), i + n = w.length → (crL (d.drop p) w = 0 ↔ crL (d.drop (p + i)) (w.drop i) = 0) → mx_J YL_isAt kb wb 18 [some (mR ta), some (mI (p : Int)), some (mR ra), some (mI 1), some (mI (i : Int))] [] σ Q := by
  obtain ⟨f, f1, f2⟩ := ht
  obtain ⟨g, g1, g2⟩ := hr
  intro n
  induction n with
  | zero =>
    intro i e hi
    refine B_YL_isAt_18 ⟨_, _, _, g1, fun _ => ⟨by decide, by decide, hQ _ ?_⟩, fun c => absurd (by omega) c⟩
    rw [if_pos (hi.mpr (by rw [dropn (l := w) (by omega)]; cases d.drop (p + i) <;> rfl))]
  | succ n ih =>
    intro i e hi
    have e1 : mx_w ((p : Int) + i) = ((p + i : Nat) : Int) := by rw [mx_w_id (by omega) (by omega)]; omega
    have e2 : mx_w ((i : Int) + 1) = ((i + 1 : Nat) : Int) := by rw [mx_w_id (by omega) (by omega)]; omega
    have c1 := f2 (p + i) (by omega)
    have c2 := g2 i (by omega)
    have hi2 : crL (d.drop (p + i)) (w.drop i) = if d.getD (p + i) 0 = w.getD i 0 then crL (d.drop (p + i + 1)) (w.drop (i + 1)) else d.getD (p + i) 0 - w.getD i 0 := by
      rw [dropc (l := d) (by omega), dropc (l := w) (by omega)]
      rfl
    refine B_YL_isAt_18 ⟨_, _, _, g1, fun c => absurd c (by omega), fun _ => ⟨fun c => absurd c (by decide), fun _ => ?_⟩⟩
    rw [e1]
    refine ⟨_, _, f1, by omega, by omega, _, rfl, _, _, g1, by omega, by omega, _, rfl, fun c => B_YL_isAt_47 ?_, fun c => B_YL_isAt_47 ?_⟩
    all_goals rw [Int.toNat_natCast, Int.toNat_natCast, c1, c2] at c
    · refine B_YL_isAt_18 ⟨_, _, _, g1, fun _ => ⟨by decide, by decide, hQ _ ?_⟩, fun _ => ⟨fun _ => ⟨by decide, by decide, hQ _ ?_⟩, fun c => absurd rfl c⟩⟩
      all_goals
        rw [if_neg]
        intro q
        rw [hi, hi2, if_neg c] at q
        omega
    · rw [e2]
      have c := Decidable.not_not.mp c
      exact ih (i + 1) (by omega) (by rw [hi, hi2, if_pos c]; rfl)
theorem kL_isAt {σ : mx_S} {ta ra p : Nat} {d w : List Int} (ht : isC σ ta d) (hr : isC σ ra w) (hw : letW w) (h1000 : d.length ≤ 1000) (hp : p ≤ 1000) (hw20 : w.length ≤ 20) (hn : 0 < w.length) : mx_MS YL_isAt [mR ta, mI (p : Int), mR ra] σ (.inl (some (mI (if crL (d.drop p) w = 0 then 1 else 0)), σ)) := by
  refine mx_pureI (by decide) rfl (Nat.le_of_ble_eq_true rfl) fun kb wb Q hk hw9 hQ => ?_
  have e1 : mx_w ((p : Int) + w.length) = ((p + w.length : Nat) : Int) := by rw [mx_w_id (by omega) (by omega)]; omega
  have hr0 := hr
  have ht0 := ht
  obtain ⟨f, f1, f2⟩ := ht
  obtain ⟨g, g1, g2⟩ := hr
  refine B_YL_isAt_0 ⟨_, _, _, g1, _, _, _, f1, fun c => ?_, fun c => ?_⟩
  all_goals rw [e1] at c
  · have nz : ¬ crL (d.drop p) w = 0 := fun q => by
      have := crL_len hw.pos q
      rw [List.length_drop] at this
      omega
    rw [if_neg nz] at hQ
    refine B_YL_isAt_18 ⟨_, _, _, g1, fun _ => ⟨by decide, by decide, hQ _ rfl⟩, fun _ => ⟨fun _ => ⟨by decide, by decide, hQ _ rfl⟩, fun c => absurd rfl c⟩⟩
  · exact jL_isAt ht0 hr0 (by omega) h1000 hQ w.length 0 (by omega) (by rw [Nat.add_zero, List.drop_zero])
