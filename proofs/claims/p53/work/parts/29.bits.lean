/-! Bits. (begun with rows of BITS.to-paste) -/
theorem wb_tb (n : Nat) : (lN n).toBitVec = BitVec.ofNat 64 n := rfl
theorem wb_inj {a b : Int64} (h : a.toBitVec = b.toBitVec) : a = b := Int64.toBitVec_inj.mp h
theorem wb_tn {n : Nat} (h : n < 2 ^ 64) : (lN n).toBitVec.toNat = n := by rw [wb_tb, BitVec.toNat_ofNat, Nat.mod_eq_of_lt h]
theorem wb_c : ∀ k, k < 64 → ((nI k).toInt64 &&& 63) = lN k := by decide +kernel
theorem wb_cu : ∀ k, k < 64 → ((nI k).toInt64.toUInt64 &&& Int64.toUInt64 63) = UInt64.ofNat k := by decide +kernel
theorem wb_sm : ∀ k, k < 64 → (BitVec.ofNat 64 k).smod 64 = BitVec.ofNat 64 k := by decide +kernel
theorem wb_lt2 {a b : Nat} (h : a < b) : 2 ^ a < 2 ^ b := Nat.pow_lt_pow_right (by decide) h
theorem wb_shr {n k : Nat} (hn : n < 2 ^ 64) (hk : k < 64) : ((lN n).toUInt64 >>> ((nI k).toInt64.toUInt64 &&& Int64.toUInt64 63)).toInt64 = lN (n / 2 ^ k) := by
  rw [wb_cu k hk]
  apply wb_inj
  apply BitVec.eq_of_toNat_eq
  show ((lN n).toUInt64 >>> UInt64.ofNat k).toNat = (BitVec.ofNat 64 _).toNat
  have h1 : (UInt64.ofNat k).toNat = k := by
    show (BitVec.ofNat 64 k).toNat = k
    rw [BitVec.toNat_ofNat, Nat.mod_eq_of_lt (by omega)]
  have h2 : (lN n).toUInt64.toNat = n := wb_tn hn
  rw [UInt64.toNat_shiftRight, h1, h2, Nat.mod_eq_of_lt hk, Nat.shiftRight_eq_div_pow, BitVec.toNat_ofNat, Nat.mod_eq_of_lt (Nat.lt_of_le_of_lt (Nat.div_le_self _ _) hn)]
theorem wb_shl (n : Nat) {k : Nat} (hk : k < 64) : lN n <<< ((nI k).toInt64 &&& 63) = lN (n * 2 ^ k) := by
  rw [wb_c k hk]
  apply wb_inj
  rw [Int64.toBitVec_shiftLeft, wb_tb, wb_tb, wb_tb, wb_sm k hk]
  apply BitVec.eq_of_toNat_eq
  rw [BitVec.shiftLeft_eq', BitVec.toNat_shiftLeft, BitVec.toNat_ofNat, BitVec.toNat_ofNat, BitVec.toNat_ofNat, Nat.mod_eq_of_lt (show k < 2 ^ 64 by omega), Nat.shiftLeft_eq, Nat.mul_mod, Nat.mod_mod, ← Nat.mul_mod]
theorem wb_and {a b : Nat} (ha : a < 2 ^ 64) (hb : b < 2 ^ 64) : lN a &&& lN b = lN (a &&& b) := by
  apply wb_inj
  rw [Int64.toBitVec_and, wb_tb, wb_tb, wb_tb]
  apply BitVec.eq_of_toNat_eq
  rw [BitVec.toNat_and, BitVec.toNat_ofNat, BitVec.toNat_ofNat, BitVec.toNat_ofNat, Nat.mod_eq_of_lt ha, Nat.mod_eq_of_lt hb, Nat.mod_eq_of_lt (Nat.and_lt_two_pow _ hb)]
theorem wb_or {a b : Nat} (ha : a < 2 ^ 64) (hb : b < 2 ^ 64) : lN a ||| lN b = lN (a ||| b) := by
  apply wb_inj
  rw [Int64.toBitVec_or, wb_tb, wb_tb, wb_tb]
  apply BitVec.eq_of_toNat_eq
  rw [BitVec.toNat_or, BitVec.toNat_ofNat, BitVec.toNat_ofNat, BitVec.toNat_ofNat, Nat.mod_eq_of_lt ha, Nat.mod_eq_of_lt hb, Nat.mod_eq_of_lt (Nat.or_lt_two_pow ha hb)]
theorem ml_of (a : Nat) : Int64.ofInt (a : Int) = lN a := Int64.ofInt_eq_ofNat
theorem mi_of (a : Nat) : Int32.ofInt (a : Int) = nI a := Int32.ofInt_eq_ofNat
theorem ml_and {a b : Nat} (ha : a < 2 ^ 62) (hb : b < 2 ^ 62) : mx_land (a : Int) (b : Int) = ((a &&& b : Nat) : Int) := by
  unfold mx_land
  rw [ml_of, ml_of, wb_and (Nat.lt_trans ha (by decide)) (Nat.lt_trans hb (by decide))]
  exact pk_lT (Nat.lt_of_le_of_lt Nat.and_le_left (Nat.lt_trans ha (by decide)))
theorem ml_or {a b : Nat} (ha : a < 2 ^ 62) (hb : b < 2 ^ 62) : mx_lor (a : Int) (b : Int) = ((a ||| b : Nat) : Int) := by
  unfold mx_lor
  rw [ml_of, ml_of, wb_or (Nat.lt_trans ha (by decide)) (Nat.lt_trans hb (by decide))]
  exact pk_lT (Nat.lt_trans (Nat.or_lt_two_pow ha hb) (by decide))
theorem ml_shr {a k : Nat} (ha : a < 2 ^ 62) (hk : k < 64) : mx_lushr (a : Int) (k : Int) = ((a / 2 ^ k : Nat) : Int) := by
  unfold mx_lushr
  rw [ml_of, mi_of, wb_shr (Nat.lt_trans ha (by decide)) hk]
  exact pk_lT (Nat.lt_of_le_of_lt (Nat.div_le_self _ _) (Nat.lt_trans ha (by decide)))
theorem ml_shl {a k : Nat} (hk : k < 64) (ha : a * 2 ^ k < 2 ^ 62) : mx_lshl (a : Int) (k : Int) = ((a * 2 ^ k : Nat) : Int) := by
  unfold mx_lshl
  rw [ml_of, mi_of, wb_shl a hk]
  exact pk_lT (Nat.lt_trans ha (by decide))
/-- a mask -/
def mk (p : Nat → Bool) : Nat → Nat
  | 0 => 0
  | n + 1 => mk p n ||| (if p n = true then 2 ^ n else 0)
theorem mk_bit (p : Nat → Bool) (i : Nat) : ∀ n : Nat, (mk p n).testBit i = (decide (i < n) && p i)
  | 0 => by simp [mk]
  | n + 1 => by
    simp only [mk]
    rw [Nat.testBit_or, mk_bit p i n]
    by_cases c : i = n
    · subst c
      by_cases d : p i = true
      · rw [if_pos d, Nat.testBit_two_pow, d]
        simp
      · rw [if_neg d]
        have : p i = false := by simpa using d
        simp [this]
    · have e : (if p n = true then 2 ^ n else 0 : Nat).testBit i = false := by
        split
        · rw [Nat.testBit_two_pow]
          exact decide_eq_false (fun q => c q.symm)
        · exact Nat.zero_testBit i
      rw [e, Bool.or_false]
      by_cases d : i < n
      · rw [decide_eq_true d, decide_eq_true (show i < n + 1 by omega)]
      · rw [decide_eq_false d, decide_eq_false (show ¬ i < n + 1 by omega)]
theorem mk_lt (p : Nat → Bool) (n : Nat) : mk p n < 2 ^ n := Nat.lt_pow_two_of_testBit _ (fun i hi => by rw [mk_bit, decide_eq_false (by omega), Bool.false_and])
theorem mk_all (n : Nat) : mk (fun _ => true) n = 2 ^ n - 1 := Nat.eq_of_testBit_eq (fun i => by rw [mk_bit, Nat.testBit_two_pow_sub_one, Bool.and_true])
theorem p2_le {a b : Nat} (h : a ≤ b) : 2 ^ a ≤ 2 ^ b := Nat.pow_le_pow_right (by decide) h
theorem mk_62 (p : Nat → Bool) {n : Nat} (h : n ≤ 20) : mk p n < 2 ^ 62 := Nat.lt_of_lt_of_le (mk_lt p n) (p2_le (by omega))
/-- the sum of bits as the JDK makes it -/
def bc1 (x : Int) : Int := mx_w6 (x - mx_land (mx_lushr x 1) 6148914691236517205)
def bc2 (x : Int) : Int := mx_w6 (mx_land x 3689348814741910323 + mx_land (mx_lushr x 2) 3689348814741910323)
def bc3 (x : Int) : Int := mx_land (mx_w6 (x + mx_lushr x 4)) 1085102592571150095
def bc4 (x : Int) : Int := mx_w6 (x + mx_lushr x 8)
def bc5 (x : Int) : Int := mx_w6 (x + mx_lushr x 16)
def bc6 (x : Int) : Int := mx_w6 (x + mx_lushr x 32)
def bcE (x : Int) : Int := mx_and ((Int64.ofInt (bc6 (bc5 (bc4 (bc3 (bc2 (bc1 x))))))).toInt32.toInt) 127
set_option maxRecDepth 100000 in
theorem bc_all : ∀ a : Nat, a < 64 → ∀ b : Nat, b < 64 → bcE ((64 * a + b : Nat) : Int) = (cn (fun i => (64 * a + b).testBit i) 12 : Nat) := by decide +kernel
theorem bc_of {m : Nat} (h : m < 4096) : bcE (m : Int) = (cn (fun i => m.testBit i) 12 : Nat) := by
  have := bc_all (m / 64) (by omega) (m % 64) (by omega)
  rw [show 64 * (m / 64) + m % 64 = m by omega] at this
  exact this
theorem cn_ext {p : Nat → Bool} {z : Nat} (hp : ∀ i, z ≤ i → p i = false) : ∀ n : Nat, z ≤ n → cn p n = cn p z
  | 0, h => by rw [show z = 0 by omega]
  | n + 1, h => by
    by_cases c : z = n + 1
    · rw [c]
    · simp only [cn]
      rw [cn_ext hp n (by omega), hp n (by omega)]
      simp
theorem bc_mk (p : Nat → Bool) {z : Nat} (hz : z ≤ 12) : bcE (mk p z : Int) = (cn p z : Nat) := by
  rw [bc_of (Nat.lt_of_lt_of_le (mk_lt p z) (p2_le hz))]
  congr 1
  rw [cn_ext (z := z) (fun i hi => by rw [mk_bit, decide_eq_false (by omega), Bool.false_and]) 12 hz]
  exact cn_cong (fun k hk => by rw [mk_bit, decide_eq_true hk, Bool.true_and])
theorem cJ_bits {σ : mx_S} {x y : Int} (h : bcE x = y) : mx_MS YJ13_bitCount_95d88 [mL x] σ (.inl (some (mI y), σ)) := by
  subst h
  refine mx_pure (by decide) rfl (Nat.le_of_ble_eq_true rfl) fun kb wb Q hk hw hQ => ?_
  exact B_YJ13_bitCount_95d88_0 hQ
theorem c8_allPlaces {σ : mx_S} {t : Nat} {T : mt_T} (h : isT σ t T) {s : Int} {z : Nat} (hz : tSize T s = z) (h12 : z ≤ 12) : mx_MS Y8_allPlaces [mR t, mI s] σ (.inl (some (mL (mk (fun _ => true) z : Nat)), σ)) := by
  refine mx_pureL (by decide) rfl (Nat.le_of_ble_eq_true rfl) fun kb wb Q hk hw hQ => ?_
  refine B_Y8_allPlaces_0 ⟨_, h.1, _, _, c8_sizeAt h s, hk, hw, hQ _ ?_⟩
  have hp : 2 ^ z ≤ 4096 := p2_le h12
  have h1 : 0 < 2 ^ z := Nat.pow_pos (by decide)
  rw [hz, show mx_lshl (1 : Int) (z : Int) = ((1 * 2 ^ z : Nat) : Int) from ml_shl (a := 1) (by omega) (by omega), Nat.one_mul, mk_all, mx_w6_id (by omega) (by omega)]
  omega
theorem j8_taking {σ : mx_S} {t : Nat} {T : mt_T} (h : isT σ t T) (ok : okT T) {s c : Int} {z : Nat} (hz : tSize T s = z) (h12 : z ≤ 12) {kb wb : Nat} {Q : mx_R → Prop} (hk : sK σ ≤ kb) (hw : sW σ ≤ wb) (hQ : Q (.inl (some (mL (mk (fun p => decide (tLet T s p = c)) z : Nat)), σ))) : ∀ (n k : Nat), k + n = z → mx_J Y8_placesTaking kb wb 17 [some (mR t), some (mI s), some (mI c), some (mL (mk (fun p => decide (tLet T s p = c)) k : Nat)), none, some (mI (k : Int))] [] σ Q
  | 0, k, e => by
    refine B_Y8_placesTaking_17 ⟨_, h.1, _, _, c8_sizeAt h s, hk, hw, fun _ => ?_, fun d => absurd ?_ d⟩
    · rw [show k = z by omega]
      exact hQ
    · rw [hz]
      omega
  | n + 1, k, e => by
    have ih := j8_taking h ok hz h12 hk hw hQ n (k + 1) (by omega)
    refine B_Y8_placesTaking_17 ⟨_, h.1, _, _, c8_sizeAt h s, hk, hw, fun d => absurd d ?_, fun _ => ⟨_, h.1, _, _, c8_letter h ok _ _, hk, hw, fun d => B_Y8_placesTaking_45 ?_, fun d => B_Y8_placesTaking_45 ?_⟩⟩
    · rw [hz]
      omega
    · rw [mx_w_id (x := (k : Int) + 1) (by omega) (by omega)]
      simp only [mk, decide_eq_true_eq, if_neg d, Nat.or_zero] at ih
      exact ih
    · have d := Decidable.not_not.mp d
      have hp : 2 ^ k < 2 ^ 62 := Nat.pow_lt_pow_right (by decide) (by omega)
      rw [mx_w_id (x := (k : Int) + 1) (by omega) (by omega), show mx_lshl (1 : Int) (k : Int) = ((1 * 2 ^ k : Nat) : Int) from ml_shl (a := 1) (by omega) (by omega), Nat.one_mul, ml_or (mk_62 _ (by omega)) hp]
      simp only [mk, decide_eq_true_eq, if_pos d] at ih
      exact ih
theorem c8_taking {σ : mx_S} {t : Nat} {T : mt_T} (h : isT σ t T) (ok : okT T) {s c : Int} {z : Nat} (hz : tSize T s = z) (h12 : z ≤ 12) (hc : c ≠ 46) : mx_MS Y8_placesTaking [mR t, mI s, mI c] σ (.inl (some (mL (mk (fun p => decide (tLet T s p = c)) z : Nat)), σ)) := by
  refine mx_pure (by decide) rfl (Nat.le_of_ble_eq_true rfl) fun kb wb Q hk hw hQ => ?_
  exact B_Y8_placesTaking_0 ⟨fun _ => j8_taking h ok hz h12 hk hw hQ z 0 (by omega), fun d => absurd hc d⟩
/-- whether the signs of a row from i on stand at a place -/
def mtF (T : mt_T) (s : Int) (R : mt_R) : Nat → Nat → Nat → Bool
  | 0, _, _ => true
  | k + 1, i, p => decide (tLet T s p = rSign R i) && mtF T s R k (i + 1) (p + 1)
theorem j8_of {σ : mx_S} {t r : Nat} {T : mt_T} {R : mt_R} (h : isT σ t T) (ok : okT T) (g : isR σ r R) (okr : okR R) (pl : plR R) {s : Int} {z : Nat} (hz : tSize T s = z) (h12 : z ≤ 12) (hend : tLet T s z = 0) {kb wb : Nat} {Q : mx_R → Prop} (hk : sK σ ≤ kb) (hw : sW σ ≤ wb) (hQ : Q (.inl (some (mL (mk (mtF T s R R.1 0) z : Nat)), σ))) : ∀ (i k : Nat), k + i = R.1 → mx_J Y8_placesOf kb wb 18 [some (mR t), some (mI s), some (mR r), some (mL (mk (mtF T s R k i) (z + 1) : Nat)), none, some (mI ((i : Int) - 1)), none] [] σ Q
  | 0, k, e => by
    refine B_Y8_placesOf_18 ⟨fun _ => ⟨_, h.1, _, _, c8_allPlaces h hz h12, hk, hw, ?_⟩, fun d => absurd (by omega) d⟩
    rw [ml_and (mk_62 _ (by omega)) (mk_62 _ (by omega))]
    have e1 : mk (mtF T s R k 0) (z + 1) &&& mk (fun _ => true) z = mk (mtF T s R R.1 0) z := Nat.eq_of_testBit_eq (fun j => by
      rw [Nat.testBit_and, mk_bit, mk_bit, mk_bit, show k = R.1 by omega]
      by_cases c : j < z
      · rw [decide_eq_true c, decide_eq_true (show j < z + 1 by omega)]
        simp
      · rw [decide_eq_false c]
        simp)
    rw [e1]
    exact hQ
  | i + 1, k, e => by
    have h20 := okr.1
    have ih := j8_of h ok g okr pl hz h12 hend hk hw hQ i (k + 1) (by omega)
    obtain ⟨f1, f2, f3⟩ := plR_sign okr pl (k := i) (by omega)
    have e0 : ((i + 1 : Nat) : Int) - 1 = (i : Int) := by omega
    rw [e0]
    refine B_Y8_placesOf_18 ⟨fun d => absurd d (by omega), fun _ => ⟨_, g.1, _, _, c6_sign g okr _, hk, hw, fun _ => ⟨_, h.1, _, _, c8_taking h ok hz h12 (by omega), hk, hw, B_Y8_placesOf_63 ?_⟩, fun d => absurd (by omega) d⟩⟩
    have e1 : mx_w ((i : Int) + -1) = (i : Int) - 1 := by rw [mx_w_id (by omega) (by omega)]; omega
    rw [e1, show mx_lushr (mk (mtF T s R k (i + 1)) (z + 1) : Int) (1 : Int) = ((mk (mtF T s R k (i + 1)) (z + 1) / 2 ^ 1 : Nat) : Int) from ml_shr (k := 1) (mk_62 _ (by omega)) (by omega), ml_and (Nat.lt_of_le_of_lt (Nat.div_le_self _ _) (mk_62 _ (by omega))) (mk_62 _ (by omega))]
    have e2 : mk (mtF T s R k (i + 1)) (z + 1) / 2 ^ 1 &&& mk (fun p => decide (tLet T s p = rSign R i)) z = mk (mtF T s R (k + 1) i) (z + 1) := Nat.eq_of_testBit_eq (fun j => by
      rw [Nat.testBit_and, ← Nat.shiftRight_eq_div_pow, Nat.testBit_shiftRight, mk_bit, mk_bit, mk_bit, Nat.add_comm 1 j]
      simp only [mtF]
      by_cases c : j < z
      · rw [decide_eq_true c, decide_eq_true (show j < z + 1 by omega), decide_eq_true (show j + 1 < z + 1 by omega)]
        simp [Bool.and_comm]
      · by_cases d : j = z
        · rw [d, hend, decide_eq_false (show ¬ (0 : Int) = rSign R i by omega)]
          simp
        · rw [decide_eq_false c, decide_eq_false (show ¬ j < z + 1 by omega)]
          simp)
    rw [e2]
    exact ih
theorem c8_placesOf {σ : mx_S} {t r : Nat} {T : mt_T} {R : mt_R} (h : isT σ t T) (ok : okT T) (g : isR σ r R) (okr : okR R) (pl : plR R) {s : Int} {z : Nat} (hz : tSize T s = z) (h12 : z ≤ 12) (hend : tLet T s z = 0) : mx_MS Y8_placesOf [mR t, mI s, mR r] σ (.inl (some (mL (mk (mtF T s R R.1 0) z : Nat)), σ)) := by
  refine mx_pure (by decide) rfl (Nat.le_of_ble_eq_true rfl) fun kb wb Q hk hw hQ => ?_
  have h20 := okr.1
  have hp : 2 ^ (z + 1) ≤ 8192 := p2_le (show z + 1 ≤ 13 by omega)
  have h1 : 0 < 2 ^ z := Nat.pow_pos (by decide)
  refine B_Y8_placesOf_0 ⟨_, h.1, _, _, c8_allPlaces h hz h12, hk, hw, _, g.1, _, _, c6_size g, hk, hw, ?_⟩
  have e0 : mk (fun _ => true) (z + 1) = 2 * (2 ^ z - 1) + 1 := by
    rw [mk_all, Nat.pow_succ]
    omega
  rw [Nat.pow_succ] at hp
  rw [show mx_lshl (mk (fun _ => true) z : Int) (1 : Int) = ((mk (fun _ => true) z * 2 ^ 1 : Nat) : Int) from ml_shl (k := 1) (by omega) (by rw [mk_all]; omega), mk_all, mx_w6_id (by omega) (by omega), mx_w_id (x := (R.1 : Int) - 1) (by omega) (by omega)]
  have key := j8_of h ok g okr pl hz h12 hend hk hw hQ R.1 0 (by omega)
  have e9 : ((mk (mtF T s R 0 R.1) (z + 1) : Nat) : Int) = (((2 ^ z - 1) * 2 ^ 1 : Nat) : Int) + 1 := by
    show ((mk (fun _ => true) (z + 1) : Nat) : Int) = _
    rw [e0]
    omega
  rw [e9] at key
  exact key
/-- whether the row stands at a place -/
def fdB (D : mt_D) (w : List Int) (y : Nat × Nat) : Bool := decide (crL (suf D y) w = 0)
theorem crL_cc {a b : Int} {l m : List Int} : crL (a :: l) (b :: m) = if a = b then crL l m else a - b := rfl
theorem crL_nc {b : Int} {m : List Int} : crL [] (b :: m) = -b := rfl
theorem mtF_fd {T : mt_T} {D : mt_D} (hr : rep T D) {R : mt_R} {w : List Int} (hw : repR R w) (okr : okR R) (hpw : posL w) (s : Nat) : ∀ k i p : Nat, k + i = R.1 → mtF T s R k i p = decide (crL (suf D (s, p)) (w.drop i) = 0) := by
  intro k
  induction k with
  | zero =>
    intro i p e
    rw [dropn (l := w) (by have := hw.1; omega)]
    simp [mtF, crL]
  | succ k ih =>
    intro i p e
    have hlt : i < w.length := by have := hw.1; omega
    have e1 : rSign R (i : Int) = w.getD i 0 := by
      have := okr.1
      unfold rSign
      rw [if_neg (by omega), if_neg (by omega), if_neg (by omega), Int.toNat_natCast]
      exact hw.2 _ hlt
    have p1 := posL_at hpw hlt
    simp only [mtF]
    rw [ih (i + 1) (p + 1) (by omega), e1, rep_let hr, dropc hlt]
    unfold suf
    rw [Bool.eq_iff_iff, Bool.and_eq_true, decide_eq_true_eq, decide_eq_true_eq, decide_eq_true_eq]
    show _ ∧ crL ((D.getD s []).drop (p + 1)) _ = 0 ↔ crL ((D.getD s []).drop p) _ = 0
    by_cases c : p < (D.getD s []).length
    · rw [dropc c, crL_cc]
      by_cases d : (D.getD s []).getD p 0 = w.getD i 0
      · rw [if_pos d]
        exact ⟨fun q => q.2, fun q => ⟨d, q⟩⟩
      · rw [if_neg d]
        exact ⟨fun q => absurd q.1 d, fun q => absurd (by omega) d⟩
    · rw [dropn (l := D.getD s []) (i := p) (by omega), crL_nc, getD_out (l := D.getD s []) (by omega)]
      exact ⟨fun q => by omega, fun q => by omega⟩
/-- the bits of the places where the row stands, of one document -/
theorem c8_fd {σ : mx_S} {t r : Nat} {T : mt_T} {R : mt_R} {D : mt_D} {w : List Int} (h : isT σ t T) (ok : okT T) (hr : rep T D) (hd : dOK D) (g : isR σ r R) (okr : okR R) (hw : repR R w) (hl : letW w) (s : Nat) : mx_MS Y8_placesOf [mR t, mI (s : Int), mR r] σ (.inl (some (mL (mk (fun p => fdB D w (s, p)) (lenD D s) : Nat)), σ)) := by
  have m := c8_placesOf h ok g okr (repR_pl hw hl) (rep_size hr s) (hd.2.2.2 s) (by rw [rep_let hr]; exact getD_out (Nat.le_refl _))
  have e : mtF T s R R.1 0 = fun p => fdB D w (s, p) := funext fun p => by
    rw [mtF_fd hr hw okr hl.pos s R.1 0 p (by omega)]
    rfl
  rw [e] at m
  exact m
theorem ctD_le {D : mt_D} (hl : ∀ k, lenD D k ≤ 40) (q : Nat × Nat → Bool) : ∀ s : Nat, ctD D q s ≤ 40 * s
  | 0 => Nat.le_refl _
  | s + 1 => by
    have h1 := ctD_le hl q s
    have h2 := cn_le (fun b => q (s, b)) (lenD D s)
    have h3 := hl s
    simp only [ctD]
    omega
theorem j8_times {σ : mx_S} {t r : Nat} {T : mt_T} {R : mt_R} {D : mt_D} {w : List Int} (h : isT σ t T) (ok : okT T) (hr : rep T D) (hd : dOK D) (g : isR σ r R) (okr : okR R) (hw : repR R w) (hl : letW w) {kb wb : Nat} {Q : mx_R → Prop} (hk : sK σ ≤ kb) (hw9 : sW σ ≤ wb) (hQ : Q (.inl (some (mI (ctD D (fdB D w) D.length)), σ))) : ∀ (n s : Nat), s + n = D.length → mx_J Y8_timesOf kb wb 4 [some (mR t), some (mR r), some (mI (ctD D (fdB D w) s)), some (mI (s : Int))] [] σ Q
  | 0, s, e => by
    have h1 := hr.1
    refine B_Y8_timesOf_4 ⟨_, h.1, _, rfl, fun _ => ?_, fun d => absurd (by omega) d⟩
    rw [show s = D.length by omega]
    exact hQ
  | n + 1, s, e => by
    have h1 := hr.1
    have h3 := hd.2.2.1
    have ih := j8_times h ok hr hd g okr hw hl hk hw9 hQ n (s + 1) (by omega)
    have b1 := ctD_le (rep_len hr) (fdB D w) s
    have b2 := cn_le (fun p => fdB D w (s, p)) (lenD D s)
    have b3 := hd.2.2.2 s
    refine B_Y8_timesOf_4 ⟨_, h.1, _, rfl, fun d => absurd d (by omega), fun _ => ⟨_, h.1, _, _, c8_fd h ok hr hd g okr hw hl s, hk, hw9, _, _, cJ_bits (bc_mk _ b3), hk, hw9, ?_⟩⟩
    rw [mx_w_id (x := (s : Int) + 1) (by omega) (by omega), mx_w_id (x := (ctD D (fdB D w) s : Int) + (cn (fun p => fdB D w (s, p)) (lenD D s) : Nat)) (by omega) (by omega)]
    exact ih
theorem S_count {σ : mx_S} {o : Nat} {w : List Int} {D : mt_D} {E : Option mt_D} {b : Bool} {x : Int} {D1 : mt_D} (h : hS σ o w D E b) (hv : vS D E x D1) (hn : 0 < w.length) : mx_MSN YL_count [mR o, mI x] σ (some (mI (ctD D1 (fdB D1 w) D1.length))) σ := by
  obtain ⟨R, A, hO, okr, hw, hl, hh⟩ := h
  obtain ⟨a, V, hM, l1, l2, v, ⟨ok, hr, ho⟩, hd, put⟩ := lens hO hh hv
  have hN := c10_nView hO hM
  have hP := c10_simple hO okr hw hl hn
  obtain ⟨⟨x2, x3, x4, x5, x6, c, q0, q1, q2⟩, q3, q4⟩ := hO
  refine mx_MSN_of ?_
  have tm : mx_MS Y8_timesOf [mR (a + 1), mR (o + 1)] σ (.inl (some (mI (ctD D1 (fdB D1 w) D1.length)), σ)) := by
    refine mx_pure (by decide) rfl (Nat.le_of_ble_eq_true rfl) fun kb wb Q hk hw9 hQ => ?_
    exact B_Y8_timesOf_0 (j8_times v.2.1 ok hr hd q3 okr hw hl hk hw9 hQ D1.length 0 (by omega))
  have inner : mx_MS Y10_count [mR o, mI x] σ (.inl (some (mI (ctD D1 (fdB D1 w) D1.length)), σ)) := by
    refine mx_pure (by decide) rfl (Nat.le_of_ble_eq_true rfl) fun kb wb Q hk hw9 hQ => ?_
    exact B_Y10_count_0 ⟨_, q2, Or.inl ⟨_, _, hN, hk, hw9, _, v.1, _, _, c9_texts v, hk, hw9, _, q2, Or.inl ⟨_, hP, hk, hw9, _, q2, _, rfl, _, v.2.1.1, _, _, tm, hk, hw9, hQ⟩⟩⟩
  refine mx_retEH (by decide) (List.cons_ne_nil _ _) (Nat.le_of_ble_eq_true rfl) rfl (Nat.le_refl _) (Nat.le_refl _) fun kb wb Q hk hw hQ => ?_
  exact B_YL_count_0 ⟨_, q2, Or.inl ⟨_, _, inner, hk, hw, hQ⟩⟩
theorem cmp_bit {m k : Nat} (hm : m < 2 ^ 62) (hk : k < 64) : (lg_cmp (Int64.ofInt (mx_land (mx_lushr (m : Int) (k : Int)) 1)) (Int64.ofInt 0)).toInt = 0 ↔ m.testBit k = false := by
  rw [ml_shr hm hk, show mx_land ((m / 2 ^ k : Nat) : Int) (1 : Int) = ((m / 2 ^ k &&& 1 : Nat) : Int) from ml_and (b := 1) (Nat.lt_of_le_of_lt (Nat.div_le_self _ _) hm) (by decide)]
  have e : (m.testBit k = false) ↔ (m / 2 ^ k &&& 1) = 0 := by
    rw [Nat.testBit_eq_decide_div_mod_eq, Nat.and_one_is_mod]
    constructor
    · intro q
      have := of_decide_eq_false q
      omega
    · intro q
      exact decide_eq_false (by omega)
  rw [e]
  have h2 : (m / 2 ^ k &&& 1) < 2 := by rw [Nat.and_one_is_mod]; omega
  generalize (m / 2 ^ k &&& 1) = b at h2
  rcases (show b = 0 ∨ b = 1 by omega) with rfl | rfl
  · exact ⟨fun _ => rfl, fun _ => by decide⟩
  · exact ⟨fun q => absurd q (by decide), fun q => absurd q (by decide)⟩
theorem cn_mono {p : Nat → Bool} {a : Nat} : ∀ b : Nat, a ≤ b → cn p a ≤ cn p b
  | 0, h => by rw [show a = 0 by omega]; exact Nat.le_refl _
  | b + 1, h => by
    by_cases c : a = b + 1
    · rw [c]; exact Nat.le_refl _
    · have := cn_mono (p := p) (a := a) b (by omega)
      simp only [cn]
      omega
theorem c10_bit {σ : mx_S} {p : Nat → Bool} {z k : Nat} (hz : z ≤ 12) (hk9 : k < z) (hp : p k = true) : mx_MS Y10_placeOfBit [mL (mk p z : Nat), mI (cn p k : Int)] σ (.inl (some (mI (k : Int)), σ)) := by
  refine mx_pure (by decide) rfl (Nat.le_of_ble_eq_true rfl) fun kb wb Q hk hw hQ => ?_
  have key : ∀ (n i : Nat), i + n = k → mx_J Y10_placeOfBit kb wb 5 [some (mL (mk p z : Nat)), none, some (mI (cn p k : Int)), some (mI ((cn p k - cn p i : Nat) : Int)), some (mI (i : Int))] [] σ Q := by
    intro n
    induction n with
    | zero =>
      intro i e
      have e : i = k := by omega
      subst e
      refine B_Y10_placeOfBit_5 ⟨fun d => absurd d (by omega), fun _ => ⟨fun d => ?_, fun _ => ⟨fun d => absurd (by omega) d, fun _ => hQ⟩⟩⟩
      rw [cmp_bit (mk_62 _ (by omega)) (by omega), mk_bit, hp, decide_eq_true hk9] at d
      cases d
    | succ n ih =>
      intro i e
      have ih := ih (i + 1) (by omega)
      have m1 := cn_mono (p := p) (a := i + 1) k (by omega)
      have m2 := cn_le p k
      have e1 : mx_w ((i : Int) + 1) = ((i + 1 : Nat) : Int) := by rw [mx_w_id (by omega) (by omega)]; omega
      simp only [cn] at m1 ih
      refine B_Y10_placeOfBit_5 ⟨fun d => absurd d (by omega), fun _ => ⟨fun d => B_Y10_placeOfBit_33 ?_, fun d => ⟨fun _ => B_Y10_placeOfBit_33 ?_, fun d2 => absurd ?_ d2⟩⟩⟩
      all_goals rw [cmp_bit (mk_62 _ (by omega)) (by omega), mk_bit, decide_eq_true (show i < z by omega), Bool.true_and] at d
      · rw [e1]
        rw [d] at ih
        exact ih
      · have d : p i = true := by simpa using d
        rw [if_pos d] at ih m1
        rw [e1, show mx_w (((cn p k - cn p i : Nat) : Int) + -1) = ((cn p k - (cn p i + 1) : Nat) : Int) by rw [mx_w_id (by omega) (by omega)]; omega]
        exact ih
      · have d : p i = true := by simpa using d
        rw [if_pos d] at m1
        omega
  have k0 := key k 0 (by omega)
  exact B_Y10_placeOfBit_0 k0
