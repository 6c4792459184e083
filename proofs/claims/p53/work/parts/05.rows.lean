theorem mx_cI (i : Int32) : mx_c (mI i.toInt) = .int i := by show Value.int (Int32.ofInt i.toInt) = _; rw [Int32.ofInt_toInt]
theorem mx_okI (i : Int32) : mx_ok (mI i.toInt) := by
  refine ⟨Int32.le_toInt _, ?_⟩
  have := Int32.toInt_lt i
  omega
theorem mx_cL (i : Int64) : mx_c (mL i.toInt) = .long i := by show Value.long (Int64.ofInt i.toInt) = _; rw [Int64.ofInt_toInt]
theorem mx_okL (i : Int64) : mx_ok (mL i.toInt) := by
  refine ⟨Int64.le_toInt _, ?_⟩
  have := Int64.toInt_lt i
  omega
theorem mx_lt {x y : Int} (hx : mx_ok (mI x)) (hy : mx_ok (mI y)) : Int32.ofInt x < Int32.ofInt y ↔ x < y := by rw [Int32.lt_iff_toInt_lt, mx_toInt hx, mx_toInt hy]
theorem mx_le {x y : Int} (hx : mx_ok (mI x)) (hy : mx_ok (mI y)) : Int32.ofInt x ≤ Int32.ofInt y ↔ x ≤ y := by rw [Int32.le_iff_toInt_le, mx_toInt hx, mx_toInt hy]
theorem mx_eq {x y : Int} (hx : mx_ok (mI x)) (hy : mx_ok (mI y)) : Int32.ofInt x = Int32.ofInt y ↔ x = y := by rw [← Int32.toInt_inj, mx_toInt hx, mx_toInt hy]
theorem mx_ok0 : mx_ok (mI 0) := ⟨by decide, by decide⟩
def mx_and (x y : Int) : Int := (Int32.ofInt x &&& Int32.ofInt y).toInt
def mx_ior (x y : Int) : Int := (Int32.ofInt x ||| Int32.ofInt y).toInt
def mx_xor (x y : Int) : Int := (Int32.ofInt x ^^^ Int32.ofInt y).toInt
def mx_div (x y : Int) : Int := (Int32.ofInt x / Int32.ofInt y).toInt
def mx_rem (x y : Int) : Int := (Int32.ofInt x - Int32.ofInt x / Int32.ofInt y * Int32.ofInt y).toInt
def mx_shl (x y : Int) : Int := (Int32.ofInt x <<< (Int32.ofInt y &&& 31)).toInt
def mx_ushr (x y : Int) : Int := ((Int32.ofInt x).toUInt32 >>> ((Int32.ofInt y).toUInt32 &&& Int32.toUInt32 31)).toInt32.toInt
def mx_i2c (x : Int) : Int := ((Int32.ofInt x).toUInt32 % 65536).toInt32.toInt
def mx_land (x y : Int) : Int := (Int64.ofInt x &&& Int64.ofInt y).toInt
def mx_lor (x y : Int) : Int := (Int64.ofInt x ||| Int64.ofInt y).toInt
def mx_lushr (x y : Int) : Int := ((Int64.ofInt x).toUInt64 >>> ((Int32.ofInt y).toInt64.toUInt64 &&& Int64.toUInt64 63)).toInt64.toInt
def mx_lshl (x y : Int) : Int := (Int64.ofInt x <<< ((Int32.ofInt y).toInt64 &&& 63)).toInt
theorem mx_cadd (x y : Int) : mx_c (mI (mx_w (x + y))) = .int (Int32.ofInt x + Int32.ofInt y) := by show Value.int _ = _; rw [mx_w_of, Int32.ofInt_add]
theorem mx_csub (x y : Int) : mx_c (mI (mx_w (x - y))) = .int (Int32.ofInt x - Int32.ofInt y) := by show Value.int _ = _; rw [mx_w_of, Int32.ofInt_sub]
theorem mx_cmul (x y : Int) : mx_c (mI (mx_w (x * y))) = .int (Int32.ofInt x * Int32.ofInt y) := by show Value.int _ = _; rw [mx_w_of, Int32.ofInt_mul]
theorem mx_cneg (x : Int) : mx_c (mI (mx_w (-x))) = .int (-Int32.ofInt x) := by show Value.int _ = _; rw [mx_w_of, Int32.ofInt_neg]
theorem mx_cladd (x y : Int) : mx_c (mL (mx_w6 (x + y))) = .long (Int64.ofInt x + Int64.ofInt y) := by show Value.long _ = _; rw [mx_w6_of, Int64.ofInt_add]
theorem mx_clsub (x y : Int) : mx_c (mL (mx_w6 (x - y))) = .long (Int64.ofInt x - Int64.ofInt y) := by show Value.long _ = _; rw [mx_w6_of, Int64.ofInt_sub]
theorem mx_clmul (x y : Int) : mx_c (mL (mx_w6 (x * y))) = .long (Int64.ofInt x * Int64.ofInt y) := by show Value.long _ = _; rw [mx_w6_of, Int64.ofInt_mul]
theorem mx_i {x : Int} (h1 : (-2147483648 ≤ x) = True) (h2 : (x ≤ 2147483647) = True) : mx_ok (mI x) := ⟨of_eq_true h1, of_eq_true h2⟩
theorem mx_cons {v : mx_V} {st : List mx_V} (h : mx_ok v) (ho : ∀ v ∈ st, mx_ok v) : ∀ w ∈ v :: st, mx_ok w := List.forall_mem_cons.mpr ⟨h, ho⟩
theorem mx_hd {v : mx_V} {st : List mx_V} (ho : ∀ w ∈ v :: st, mx_ok w) : mx_ok v := (List.forall_mem_cons.mp ho).1
theorem mx_tl {v : mx_V} {st : List mx_V} (ho : ∀ w ∈ v :: st, mx_ok w) : ∀ w ∈ st, mx_ok w := (List.forall_mem_cons.mp ho).2

theorem mj_iload {Y : mx_M} {kb wb pc : Nat} {ls : List (Option mx_V)} {st : List mx_V} {σ : mx_S} {Q : mx_R → Prop} {k : Nat} {x : Int} (hd : decode Y.2.1 pc = .ok (.iload k, 2)) (hx : ls[k]? = some (some (mI x))) (K : mx_J Y kb wb (pc + 2) ls (mI x :: st) σ Q) : mx_J Y kb wb pc ls (st) σ Q := by
  intro G p l e R s m args below meth c H locs cells slots k0 w0 Qs lr C hk hw P hl ho D
  exact lv_iload C.1 C.2.1 hd (hl.at hx) (K G p l e R s m args below meth c H locs cells slots k0 w0 Qs lr C hk hw P hl (mx_cons (hl.ok hx) ho) D)
theorem mj_iload_n {Y : mx_M} {kb wb pc : Nat} {ls : List (Option mx_V)} {st : List mx_V} {σ : mx_S} {Q : mx_R → Prop} {f : Fin 4} {k : Nat} {x : Int} (hd : decode Y.2.1 pc = .ok (.iload_n f, 1)) (hf : (f : Nat) = k) (hx : ls[k]? = some (some (mI x))) (K : mx_J Y kb wb (pc + 1) ls (mI x :: st) σ Q) : mx_J Y kb wb pc ls (st) σ Q := by
  intro G p l e R s m args below meth c H locs cells slots k0 w0 Qs lr C hk hw P hl ho D
  exact lv_iload_n C.1 C.2.1 hd hf (hl.at hx) (K G p l e R s m args below meth c H locs cells slots k0 w0 Qs lr C hk hw P hl (mx_cons (hl.ok hx) ho) D)
theorem mj_lload {Y : mx_M} {kb wb pc : Nat} {ls : List (Option mx_V)} {st : List mx_V} {σ : mx_S} {Q : mx_R → Prop} {k : Nat} {x : Int} (hd : decode Y.2.1 pc = .ok (.lload k, 2)) (hx : ls[k]? = some (some (mL x))) (K : mx_J Y kb wb (pc + 2) ls (mL x :: st) σ Q) : mx_J Y kb wb pc ls (st) σ Q := by
  intro G p l e R s m args below meth c H locs cells slots k0 w0 Qs lr C hk hw P hl ho D
  exact lv_lload C.1 C.2.1 hd (hl.at hx) (K G p l e R s m args below meth c H locs cells slots k0 w0 Qs lr C hk hw P hl (mx_cons (hl.ok hx) ho) D)
theorem mj_lload_n {Y : mx_M} {kb wb pc : Nat} {ls : List (Option mx_V)} {st : List mx_V} {σ : mx_S} {Q : mx_R → Prop} {f : Fin 4} {k : Nat} {x : Int} (hd : decode Y.2.1 pc = .ok (.lload_n f, 1)) (hf : (f : Nat) = k) (hx : ls[k]? = some (some (mL x))) (K : mx_J Y kb wb (pc + 1) ls (mL x :: st) σ Q) : mx_J Y kb wb pc ls (st) σ Q := by
  intro G p l e R s m args below meth c H locs cells slots k0 w0 Qs lr C hk hw P hl ho D
  exact lv_lload_n C.1 C.2.1 hd hf (hl.at hx) (K G p l e R s m args below meth c H locs cells slots k0 w0 Qs lr C hk hw P hl (mx_cons (hl.ok hx) ho) D)
theorem mj_fload {Y : mx_M} {kb wb pc : Nat} {ls : List (Option mx_V)} {st : List mx_V} {σ : mx_S} {Q : mx_R → Prop} {k : Nat} {x : UInt32} (hd : decode Y.2.1 pc = .ok (.fload k, 2)) (hx : ls[k]? = some (some (mF x))) (K : mx_J Y kb wb (pc + 2) ls (mF x :: st) σ Q) : mx_J Y kb wb pc ls (st) σ Q := by
  intro G p l e R s m args below meth c H locs cells slots k0 w0 Qs lr C hk hw P hl ho D
  exact lv_fload C.1 C.2.1 hd (hl.at hx) (K G p l e R s m args below meth c H locs cells slots k0 w0 Qs lr C hk hw P hl (mx_cons (hl.ok hx) ho) D)
theorem mj_fload_n {Y : mx_M} {kb wb pc : Nat} {ls : List (Option mx_V)} {st : List mx_V} {σ : mx_S} {Q : mx_R → Prop} {f : Fin 4} {k : Nat} {x : UInt32} (hd : decode Y.2.1 pc = .ok (.fload_n f, 1)) (hf : (f : Nat) = k) (hx : ls[k]? = some (some (mF x))) (K : mx_J Y kb wb (pc + 1) ls (mF x :: st) σ Q) : mx_J Y kb wb pc ls (st) σ Q := by
  intro G p l e R s m args below meth c H locs cells slots k0 w0 Qs lr C hk hw P hl ho D
  exact lv_fload_n C.1 C.2.1 hd hf (hl.at hx) (K G p l e R s m args below meth c H locs cells slots k0 w0 Qs lr C hk hw P hl (mx_cons (hl.ok hx) ho) D)
theorem mj_aload {Y : mx_M} {kb wb pc : Nat} {ls : List (Option mx_V)} {st : List mx_V} {σ : mx_S} {Q : mx_R → Prop} {k : Nat} {x : Nat} (hd : decode Y.2.1 pc = .ok (.aload k, 2)) (hx : ls[k]? = some (some (mR x))) (K : mx_J Y kb wb (pc + 2) ls (mR x :: st) σ Q) : mx_J Y kb wb pc ls (st) σ Q := by
  intro G p l e R s m args below meth c H locs cells slots k0 w0 Qs lr C hk hw P hl ho D
  exact lv_aload C.1 C.2.1 hd (hl.at hx) (K G p l e R s m args below meth c H locs cells slots k0 w0 Qs lr C hk hw P hl (mx_cons (hl.ok hx) ho) D)
theorem mj_aload_n {Y : mx_M} {kb wb pc : Nat} {ls : List (Option mx_V)} {st : List mx_V} {σ : mx_S} {Q : mx_R → Prop} {f : Fin 4} {k : Nat} {x : Nat} (hd : decode Y.2.1 pc = .ok (.aload_n f, 1)) (hf : (f : Nat) = k) (hx : ls[k]? = some (some (mR x))) (K : mx_J Y kb wb (pc + 1) ls (mR x :: st) σ Q) : mx_J Y kb wb pc ls (st) σ Q := by
  intro G p l e R s m args below meth c H locs cells slots k0 w0 Qs lr C hk hw P hl ho D
  exact lv_aload_n C.1 C.2.1 hd hf (hl.at hx) (K G p l e R s m args below meth c H locs cells slots k0 w0 Qs lr C hk hw P hl (mx_cons (hl.ok hx) ho) D)
theorem mj_aloadN {Y : mx_M} {kb wb pc : Nat} {ls : List (Option mx_V)} {st : List mx_V} {σ : mx_S} {Q : mx_R → Prop} {k : Nat} (hd : decode Y.2.1 pc = .ok (.aload k, 2)) (hx : ls[k]? = some (some mN)) (K : mx_J Y kb wb (pc + 2) ls (mN :: st) σ Q) : mx_J Y kb wb pc ls (st) σ Q := by
  intro G p l e R s m args below meth c H locs cells slots k0 w0 Qs lr C hk hw P hl ho D
  exact lv_aloadN C.1 C.2.1 hd (hl.at hx) (K G p l e R s m args below meth c H locs cells slots k0 w0 Qs lr C hk hw P hl (mx_cons (hl.ok hx) ho) D)
theorem mj_aloadN_n {Y : mx_M} {kb wb pc : Nat} {ls : List (Option mx_V)} {st : List mx_V} {σ : mx_S} {Q : mx_R → Prop} {f : Fin 4} {k : Nat} (hd : decode Y.2.1 pc = .ok (.aload_n f, 1)) (hf : (f : Nat) = k) (hx : ls[k]? = some (some mN)) (K : mx_J Y kb wb (pc + 1) ls (mN :: st) σ Q) : mx_J Y kb wb pc ls (st) σ Q := by
  intro G p l e R s m args below meth c H locs cells slots k0 w0 Qs lr C hk hw P hl ho D
  exact lv_aload_nN C.1 C.2.1 hd hf (hl.at hx) (K G p l e R s m args below meth c H locs cells slots k0 w0 Qs lr C hk hw P hl (mx_cons (hl.ok hx) ho) D)
theorem mj_iconst {Y : mx_M} {kb wb pc : Nat} {ls : List (Option mx_V)} {st : List mx_V} {σ : mx_S} {Q : mx_R → Prop} {n : Int} (hd : decode Y.2.1 pc = .ok (.iconst n, 1)) (hn : mx_ok (mI n)) (K : mx_J Y kb wb (pc + 1) ls (mI n :: st) σ Q) : mx_J Y kb wb pc ls (st) σ Q := by
  intro G p l e R s m args below meth c H locs cells slots k0 w0 Qs lr C hk hw P hl ho D
  exact lv_iconst C.1 C.2.1 hd rfl (K G p l e R s m args below meth c H locs cells slots k0 w0 Qs lr C hk hw P hl (mx_cons hn ho) D)
theorem mj_bipush {Y : mx_M} {kb wb pc : Nat} {ls : List (Option mx_V)} {st : List mx_V} {σ : mx_S} {Q : mx_R → Prop} {n : Int} (hd : decode Y.2.1 pc = .ok (.bipush n, 2)) (hn : mx_ok (mI n)) (hv : (Int8.ofInt n).toInt32 = Int32.ofInt n) (K : mx_J Y kb wb (pc + 2) ls (mI n :: st) σ Q) : mx_J Y kb wb pc ls (st) σ Q := by
  intro G p l e R s m args below meth c H locs cells slots k0 w0 Qs lr C hk hw P hl ho D
  exact lv_bipush C.1 C.2.1 hd hv (K G p l e R s m args below meth c H locs cells slots k0 w0 Qs lr C hk hw P hl (mx_cons hn ho) D)
theorem mj_sipush {Y : mx_M} {kb wb pc : Nat} {ls : List (Option mx_V)} {st : List mx_V} {σ : mx_S} {Q : mx_R → Prop} {n : Int} (hd : decode Y.2.1 pc = .ok (.sipush n, 3)) (hn : mx_ok (mI n)) (hv : (Int16.ofInt n).toInt32 = Int32.ofInt n) (K : mx_J Y kb wb (pc + 3) ls (mI n :: st) σ Q) : mx_J Y kb wb pc ls (st) σ Q := by
  intro G p l e R s m args below meth c H locs cells slots k0 w0 Qs lr C hk hw P hl ho D
  exact lv_sipush C.1 C.2.1 hd hv (K G p l e R s m args below meth c H locs cells slots k0 w0 Qs lr C hk hw P hl (mx_cons hn ho) D)
theorem mj_lconst {Y : mx_M} {kb wb pc : Nat} {ls : List (Option mx_V)} {st : List mx_V} {σ : mx_S} {Q : mx_R → Prop} {f : Fin 2} {n : Int} (hd : decode Y.2.1 pc = .ok (.lconst f, 1)) (hn : mx_ok (mL n)) (hv : Int64.ofNat (f : Nat) = Int64.ofInt n) (K : mx_J Y kb wb (pc + 1) ls (mL n :: st) σ Q) : mx_J Y kb wb pc ls (st) σ Q := by
  intro G p l e R s m args below meth c H locs cells slots k0 w0 Qs lr C hk hw P hl ho D
  exact lv_lconst C.1 C.2.1 hd hv (K G p l e R s m args below meth c H locs cells slots k0 w0 Qs lr C hk hw P hl (mx_cons hn ho) D)
theorem mj_null {Y : mx_M} {kb wb pc : Nat} {ls : List (Option mx_V)} {st : List mx_V} {σ : mx_S} {Q : mx_R → Prop}  (hd : decode Y.2.1 pc = .ok (.aconst_null, 1))  (K : mx_J Y kb wb (pc + 1) ls (mN :: st) σ Q) : mx_J Y kb wb pc ls (st) σ Q := by
  intro G p l e R s m args below meth c H locs cells slots k0 w0 Qs lr C hk hw P hl ho D
  exact lv_null C.1 C.2.1 hd (K G p l e R s m args below meth c H locs cells slots k0 w0 Qs lr C hk hw P hl (mx_cons trivial ho) D)
theorem mj_ldc {Y : mx_M} {kb wb pc : Nat} {ls : List (Option mx_V)} {st : List mx_V} {σ : mx_S} {Q : mx_R → Prop} {i : Nat} {n : Int} (hd : decode Y.2.1 pc = .ok (.ldc i, 2)) (hn : mx_ok (mI n)) (hw9 : Cond.constant Y.1.cls i (Int32.ofInt n) ∈ mx_ws) (K : mx_J Y kb wb (pc + 2) ls (mI n :: st) σ Q) : mx_J Y kb wb pc ls (st) σ Q := by
  intro G p l e R s m args below meth c H locs cells slots k0 w0 Qs lr C hk hw P hl ho D
  exact W.ldc C.1 C.2.1 C.2.2.2.1 (C.2.2.2.2.1 _ hw9) rfl hd (K G p l e R s m args below meth c H locs cells slots k0 w0 Qs lr C hk hw P hl (mx_cons hn ho) D)
theorem mj_ldc2 {Y : mx_M} {kb wb pc : Nat} {ls : List (Option mx_V)} {st : List mx_V} {σ : mx_S} {Q : mx_R → Prop} {i : Nat} {n : Int} (hd : decode Y.2.1 pc = .ok (.ldc2_w i, 3)) (hn : mx_ok (mL n)) (hw9 : Cond.constantLong Y.1.cls i (Int64.ofInt n) ∈ mx_ws) (K : mx_J Y kb wb (pc + 3) ls (mL n :: st) σ Q) : mx_J Y kb wb pc ls (st) σ Q := by
  intro G p l e R s m args below meth c H locs cells slots k0 w0 Qs lr C hk hw P hl ho D
  exact W.ldc2 C.1 C.2.1 C.2.2.2.1 (C.2.2.2.2.1 _ hw9) rfl hd (K G p l e R s m args below meth c H locs cells slots k0 w0 Qs lr C hk hw P hl (mx_cons hn ho) D)
theorem mj_iadd {Y : mx_M} {kb wb pc : Nat} {ls : List (Option mx_V)} {st : List mx_V} {σ : mx_S} {Q : mx_R → Prop} {x y : Int} (hd : decode Y.2.1 pc = .ok (.iadd, 1))  (K : mx_J Y kb wb (pc + 1) ls (mI (mx_w (x + y)) :: st) σ Q) : mx_J Y kb wb pc ls (mI y :: mI x :: st) σ Q := by
  intro G p l e R s m args below meth c H locs cells slots k0 w0 Qs lr C hk hw P hl ho D
  have k := K G p l e R s m args below meth c H locs cells slots k0 w0 Qs lr C hk hw P hl (mx_cons (mx_w_ok _) (mx_tl (mx_tl ho))) D
  rw [List.map_cons, show mx_c (mI (mx_w (x + y))) = _ from mx_cadd x y] at k
  exact lv_iadd C.1 C.2.1 hd k
theorem mj_isub {Y : mx_M} {kb wb pc : Nat} {ls : List (Option mx_V)} {st : List mx_V} {σ : mx_S} {Q : mx_R → Prop} {x y : Int} (hd : decode Y.2.1 pc = .ok (.isub, 1))  (K : mx_J Y kb wb (pc + 1) ls (mI (mx_w (x - y)) :: st) σ Q) : mx_J Y kb wb pc ls (mI y :: mI x :: st) σ Q := by
  intro G p l e R s m args below meth c H locs cells slots k0 w0 Qs lr C hk hw P hl ho D
  have k := K G p l e R s m args below meth c H locs cells slots k0 w0 Qs lr C hk hw P hl (mx_cons (mx_w_ok _) (mx_tl (mx_tl ho))) D
  rw [List.map_cons, show mx_c (mI (mx_w (x - y))) = _ from mx_csub x y] at k
  exact lv_isub C.1 C.2.1 hd k
theorem mj_imul {Y : mx_M} {kb wb pc : Nat} {ls : List (Option mx_V)} {st : List mx_V} {σ : mx_S} {Q : mx_R → Prop} {x y : Int} (hd : decode Y.2.1 pc = .ok (.imul, 1))  (K : mx_J Y kb wb (pc + 1) ls (mI (mx_w (x * y)) :: st) σ Q) : mx_J Y kb wb pc ls (mI y :: mI x :: st) σ Q := by
  intro G p l e R s m args below meth c H locs cells slots k0 w0 Qs lr C hk hw P hl ho D
  have k := K G p l e R s m args below meth c H locs cells slots k0 w0 Qs lr C hk hw P hl (mx_cons (mx_w_ok _) (mx_tl (mx_tl ho))) D
  rw [List.map_cons, show mx_c (mI (mx_w (x * y))) = _ from mx_cmul x y] at k
  exact lv_imul C.1 C.2.1 hd k
theorem mj_iand {Y : mx_M} {kb wb pc : Nat} {ls : List (Option mx_V)} {st : List mx_V} {σ : mx_S} {Q : mx_R → Prop} {x y : Int} (hd : decode Y.2.1 pc = .ok (.iand, 1))  (K : mx_J Y kb wb (pc + 1) ls (mI (mx_and x y) :: st) σ Q) : mx_J Y kb wb pc ls (mI y :: mI x :: st) σ Q := by
  intro G p l e R s m args below meth c H locs cells slots k0 w0 Qs lr C hk hw P hl ho D
  have k := K G p l e R s m args below meth c H locs cells slots k0 w0 Qs lr C hk hw P hl (mx_cons (mx_okI _) (mx_tl (mx_tl ho))) D
  rw [List.map_cons, show mx_c (mI (mx_and x y)) = _ from mx_cI _] at k
  exact lv_iand C.1 C.2.1 hd k
theorem mj_ior {Y : mx_M} {kb wb pc : Nat} {ls : List (Option mx_V)} {st : List mx_V} {σ : mx_S} {Q : mx_R → Prop} {x y : Int} (hd : decode Y.2.1 pc = .ok (.ior, 1))  (K : mx_J Y kb wb (pc + 1) ls (mI (mx_ior x y) :: st) σ Q) : mx_J Y kb wb pc ls (mI y :: mI x :: st) σ Q := by
  intro G p l e R s m args below meth c H locs cells slots k0 w0 Qs lr C hk hw P hl ho D
  have k := K G p l e R s m args below meth c H locs cells slots k0 w0 Qs lr C hk hw P hl (mx_cons (mx_okI _) (mx_tl (mx_tl ho))) D
  rw [List.map_cons, show mx_c (mI (mx_ior x y)) = _ from mx_cI _] at k
  exact lv_ior C.1 C.2.1 hd k
theorem mj_ixor {Y : mx_M} {kb wb pc : Nat} {ls : List (Option mx_V)} {st : List mx_V} {σ : mx_S} {Q : mx_R → Prop} {x y : Int} (hd : decode Y.2.1 pc = .ok (.ixor, 1))  (K : mx_J Y kb wb (pc + 1) ls (mI (mx_xor x y) :: st) σ Q) : mx_J Y kb wb pc ls (mI y :: mI x :: st) σ Q := by
  intro G p l e R s m args below meth c H locs cells slots k0 w0 Qs lr C hk hw P hl ho D
  have k := K G p l e R s m args below meth c H locs cells slots k0 w0 Qs lr C hk hw P hl (mx_cons (mx_okI _) (mx_tl (mx_tl ho))) D
  rw [List.map_cons, show mx_c (mI (mx_xor x y)) = _ from mx_cI _] at k
  exact lv_ixor C.1 C.2.1 hd k
theorem mj_ishl {Y : mx_M} {kb wb pc : Nat} {ls : List (Option mx_V)} {st : List mx_V} {σ : mx_S} {Q : mx_R → Prop} {x y : Int} (hd : decode Y.2.1 pc = .ok (.ishl, 1))  (K : mx_J Y kb wb (pc + 1) ls (mI (mx_shl x y) :: st) σ Q) : mx_J Y kb wb pc ls (mI y :: mI x :: st) σ Q := by
  intro G p l e R s m args below meth c H locs cells slots k0 w0 Qs lr C hk hw P hl ho D
  have k := K G p l e R s m args below meth c H locs cells slots k0 w0 Qs lr C hk hw P hl (mx_cons (mx_okI _) (mx_tl (mx_tl ho))) D
  rw [List.map_cons, show mx_c (mI (mx_shl x y)) = _ from mx_cI _] at k
  exact lv_ishl C.1 C.2.1 hd k
theorem mj_idiv {Y : mx_M} {kb wb pc : Nat} {ls : List (Option mx_V)} {st : List mx_V} {σ : mx_S} {Q : mx_R → Prop} {x y : Int} (hd : decode Y.2.1 pc = .ok (.idiv, 1)) (hne : ¬ y = 0) (K : mx_J Y kb wb (pc + 1) ls (mI (mx_div x y) :: st) σ Q) : mx_J Y kb wb pc ls (mI y :: mI x :: st) σ Q := by
  intro G p l e R s m args below meth c H locs cells slots k0 w0 Qs lr C hk hw P hl ho D
  have k := K G p l e R s m args below meth c H locs cells slots k0 w0 Qs lr C hk hw P hl (mx_cons (mx_okI _) (mx_tl (mx_tl ho))) D
  rw [List.map_cons, show mx_c (mI (mx_div x y)) = _ from mx_cI _] at k
  exact lv_idiv C.1 C.2.1 hd (fun q => hne ((mx_eq (mx_hd ho) mx_ok0).mp q)) k
theorem mj_irem {Y : mx_M} {kb wb pc : Nat} {ls : List (Option mx_V)} {st : List mx_V} {σ : mx_S} {Q : mx_R → Prop} {x y : Int} (hd : decode Y.2.1 pc = .ok (.irem, 1)) (hne : ¬ y = 0) (K : mx_J Y kb wb (pc + 1) ls (mI (mx_rem x y) :: st) σ Q) : mx_J Y kb wb pc ls (mI y :: mI x :: st) σ Q := by
  intro G p l e R s m args below meth c H locs cells slots k0 w0 Qs lr C hk hw P hl ho D
  have k := K G p l e R s m args below meth c H locs cells slots k0 w0 Qs lr C hk hw P hl (mx_cons (mx_okI _) (mx_tl (mx_tl ho))) D
  rw [List.map_cons, show mx_c (mI (mx_rem x y)) = _ from mx_cI _] at k
  exact lv_irem C.1 C.2.1 hd (fun q => hne ((mx_eq (mx_hd ho) mx_ok0).mp q)) k
theorem mj_ineg {Y : mx_M} {kb wb pc : Nat} {ls : List (Option mx_V)} {st : List mx_V} {σ : mx_S} {Q : mx_R → Prop} {x : Int} (hd : decode Y.2.1 pc = .ok (.ineg, 1))  (K : mx_J Y kb wb (pc + 1) ls (mI (mx_w (-x)) :: st) σ Q) : mx_J Y kb wb pc ls (mI x :: st) σ Q := by
  intro G p l e R s m args below meth c H locs cells slots k0 w0 Qs lr C hk hw P hl ho D
  have k := K G p l e R s m args below meth c H locs cells slots k0 w0 Qs lr C hk hw P hl (mx_cons (mx_w_ok _) (mx_tl ho)) D
  rw [List.map_cons, mx_cneg] at k
  exact lv_ineg C.1 C.2.1 hd k
theorem mj_iushr {Y : mx_M} {kb wb pc : Nat} {ls : List (Option mx_V)} {st : List mx_V} {σ : mx_S} {Q : mx_R → Prop} {x y : Int} (hd : decode Y.2.1 pc = .ok (.iushr, 1))  (K : mx_J Y kb wb (pc + 1) ls (mI (mx_ushr x y) :: st) σ Q) : mx_J Y kb wb pc ls (mI y :: mI x :: st) σ Q := by
  intro G p l e R s m args below meth c H locs cells slots k0 w0 Qs lr C hk hw P hl ho D
  have k := K G p l e R s m args below meth c H locs cells slots k0 w0 Qs lr C hk hw P hl (mx_cons (mx_okI _) (mx_tl (mx_tl ho))) D
  rw [List.map_cons, show mx_c (mI (mx_ushr x y)) = _ from mx_cI _] at k
  exact lv_iushr C.1 C.2.1 hd rfl k
theorem mj_i2c {Y : mx_M} {kb wb pc : Nat} {ls : List (Option mx_V)} {st : List mx_V} {σ : mx_S} {Q : mx_R → Prop} {x : Int} (hd : decode Y.2.1 pc = .ok (.i2c, 1))  (K : mx_J Y kb wb (pc + 1) ls (mI (mx_i2c x) :: st) σ Q) : mx_J Y kb wb pc ls (mI x :: st) σ Q := by
  intro G p l e R s m args below meth c H locs cells slots k0 w0 Qs lr C hk hw P hl ho D
  have k := K G p l e R s m args below meth c H locs cells slots k0 w0 Qs lr C hk hw P hl (mx_cons (mx_okI _) (mx_tl ho)) D
  rw [List.map_cons, show mx_c (mI (mx_i2c x)) = _ from mx_cI _] at k
  exact lv_i2c C.1 C.2.1 hd rfl k
theorem mj_ladd {Y : mx_M} {kb wb pc : Nat} {ls : List (Option mx_V)} {st : List mx_V} {σ : mx_S} {Q : mx_R → Prop} {x y : Int} (hd : decode Y.2.1 pc = .ok (.ladd, 1))  (K : mx_J Y kb wb (pc + 1) ls (mL (mx_w6 (x + y)) :: st) σ Q) : mx_J Y kb wb pc ls (mL y :: mL x :: st) σ Q := by
  intro G p l e R s m args below meth c H locs cells slots k0 w0 Qs lr C hk hw P hl ho D
  have k := K G p l e R s m args below meth c H locs cells slots k0 w0 Qs lr C hk hw P hl (mx_cons (mx_w6_ok _) (mx_tl (mx_tl ho))) D
  rw [List.map_cons, show mx_c (mL (mx_w6 (x + y))) = _ from mx_cladd x y] at k
  exact lv_ladd C.1 C.2.1 hd k
theorem mj_lsub {Y : mx_M} {kb wb pc : Nat} {ls : List (Option mx_V)} {st : List mx_V} {σ : mx_S} {Q : mx_R → Prop} {x y : Int} (hd : decode Y.2.1 pc = .ok (.lsub, 1))  (K : mx_J Y kb wb (pc + 1) ls (mL (mx_w6 (x - y)) :: st) σ Q) : mx_J Y kb wb pc ls (mL y :: mL x :: st) σ Q := by
  intro G p l e R s m args below meth c H locs cells slots k0 w0 Qs lr C hk hw P hl ho D
  have k := K G p l e R s m args below meth c H locs cells slots k0 w0 Qs lr C hk hw P hl (mx_cons (mx_w6_ok _) (mx_tl (mx_tl ho))) D
  rw [List.map_cons, show mx_c (mL (mx_w6 (x - y))) = _ from mx_clsub x y] at k
  exact lv_lsub C.1 C.2.1 hd k
theorem mj_lmul {Y : mx_M} {kb wb pc : Nat} {ls : List (Option mx_V)} {st : List mx_V} {σ : mx_S} {Q : mx_R → Prop} {x y : Int} (hd : decode Y.2.1 pc = .ok (.lmul, 1))  (K : mx_J Y kb wb (pc + 1) ls (mL (mx_w6 (x * y)) :: st) σ Q) : mx_J Y kb wb pc ls (mL y :: mL x :: st) σ Q := by
  intro G p l e R s m args below meth c H locs cells slots k0 w0 Qs lr C hk hw P hl ho D
  have k := K G p l e R s m args below meth c H locs cells slots k0 w0 Qs lr C hk hw P hl (mx_cons (mx_w6_ok _) (mx_tl (mx_tl ho))) D
  rw [List.map_cons, show mx_c (mL (mx_w6 (x * y))) = _ from mx_clmul x y] at k
  exact lv_lmul C.1 C.2.1 hd k
theorem mj_land {Y : mx_M} {kb wb pc : Nat} {ls : List (Option mx_V)} {st : List mx_V} {σ : mx_S} {Q : mx_R → Prop} {x y : Int} (hd : decode Y.2.1 pc = .ok (.land, 1))  (K : mx_J Y kb wb (pc + 1) ls (mL (mx_land x y) :: st) σ Q) : mx_J Y kb wb pc ls (mL y :: mL x :: st) σ Q := by
  intro G p l e R s m args below meth c H locs cells slots k0 w0 Qs lr C hk hw P hl ho D
  have k := K G p l e R s m args below meth c H locs cells slots k0 w0 Qs lr C hk hw P hl (mx_cons (mx_okL _) (mx_tl (mx_tl ho))) D
  rw [List.map_cons, show mx_c (mL (mx_land x y)) = _ from mx_cL _] at k
  exact lv_land C.1 C.2.1 hd k
theorem mj_lor {Y : mx_M} {kb wb pc : Nat} {ls : List (Option mx_V)} {st : List mx_V} {σ : mx_S} {Q : mx_R → Prop} {x y : Int} (hd : decode Y.2.1 pc = .ok (.lor, 1))  (K : mx_J Y kb wb (pc + 1) ls (mL (mx_lor x y) :: st) σ Q) : mx_J Y kb wb pc ls (mL y :: mL x :: st) σ Q := by
  intro G p l e R s m args below meth c H locs cells slots k0 w0 Qs lr C hk hw P hl ho D
  have k := K G p l e R s m args below meth c H locs cells slots k0 w0 Qs lr C hk hw P hl (mx_cons (mx_okL _) (mx_tl (mx_tl ho))) D
  rw [List.map_cons, show mx_c (mL (mx_lor x y)) = _ from mx_cL _] at k
  exact lv_lor C.1 C.2.1 hd k
theorem mj_lushr {Y : mx_M} {kb wb pc : Nat} {ls : List (Option mx_V)} {st : List mx_V} {σ : mx_S} {Q : mx_R → Prop} {x y : Int} (hd : decode Y.2.1 pc = .ok (.lushr, 1))  (K : mx_J Y kb wb (pc + 1) ls (mL (mx_lushr x y) :: st) σ Q) : mx_J Y kb wb pc ls (mI y :: mL x :: st) σ Q := by
  intro G p l e R s m args below meth c H locs cells slots k0 w0 Qs lr C hk hw P hl ho D
  have k := K G p l e R s m args below meth c H locs cells slots k0 w0 Qs lr C hk hw P hl (mx_cons (mx_okL _) (mx_tl (mx_tl ho))) D
  rw [List.map_cons, show mx_c (mL (mx_lushr x y)) = _ from mx_cL _] at k
  exact lv_lushr C.1 C.2.1 hd rfl k
theorem mj_lshl {Y : mx_M} {kb wb pc : Nat} {ls : List (Option mx_V)} {st : List mx_V} {σ : mx_S} {Q : mx_R → Prop} {x y : Int} (hd : decode Y.2.1 pc = .ok (.lshl, 1))  (K : mx_J Y kb wb (pc + 1) ls (mL (mx_lshl x y) :: st) σ Q) : mx_J Y kb wb pc ls (mI y :: mL x :: st) σ Q := by
  intro G p l e R s m args below meth c H locs cells slots k0 w0 Qs lr C hk hw P hl ho D
  have k := K G p l e R s m args below meth c H locs cells slots k0 w0 Qs lr C hk hw P hl (mx_cons (mx_okL _) (mx_tl (mx_tl ho))) D
  rw [List.map_cons, show mx_c (mL (mx_lshl x y)) = _ from mx_cL _] at k
  exact lv_lshl C.1 C.2.1 hd rfl k
theorem mj_i2l {Y : mx_M} {kb wb pc : Nat} {ls : List (Option mx_V)} {st : List mx_V} {σ : mx_S} {Q : mx_R → Prop} {x : Int} (hd : decode Y.2.1 pc = .ok (.i2l, 1))  (K : mx_J Y kb wb (pc + 1) ls (mL x :: st) σ Q) : mx_J Y kb wb pc ls (mI x :: st) σ Q := by
  intro G p l e R s m args below meth c H locs cells slots k0 w0 Qs lr C hk hw P hl ho D
  have h := mx_hd ho
  have e9 : (Int32.ofInt x).toInt64 = Int64.ofInt x := by
    apply Int64.toInt_inj.mp
    rw [Int32.toInt_toInt64, mx_toInt h, mx_toInt6 (x := x) ⟨by have := h.1; omega, by have := h.2; omega⟩]
  exact lv_i2l C.1 C.2.1 hd e9 (K G p l e R s m args below meth c H locs cells slots k0 w0 Qs lr C hk hw P hl (mx_cons ⟨by have := h.1; omega, by have := h.2; omega⟩ (mx_tl ho)) D)
theorem mj_l2i {Y : mx_M} {kb wb pc : Nat} {ls : List (Option mx_V)} {st : List mx_V} {σ : mx_S} {Q : mx_R → Prop} {x : Int} (hd : decode Y.2.1 pc = .ok (.l2i, 1))  (K : mx_J Y kb wb (pc + 1) ls (mI (Int64.ofInt x).toInt32.toInt :: st) σ Q) : mx_J Y kb wb pc ls (mL x :: st) σ Q := by
  intro G p l e R s m args below meth c H locs cells slots k0 w0 Qs lr C hk hw P hl ho D
  have k := K G p l e R s m args below meth c H locs cells slots k0 w0 Qs lr C hk hw P hl (mx_cons (mx_okI _) (mx_tl ho)) D
  rw [List.map_cons, mx_cI] at k
  exact lv_l2i C.1 C.2.1 hd rfl k
theorem mj_lcmp {Y : mx_M} {kb wb pc : Nat} {ls : List (Option mx_V)} {st : List mx_V} {σ : mx_S} {Q : mx_R → Prop} {x y : Int} (hd : decode Y.2.1 pc = .ok (.lcmp, 1))  (K : mx_J Y kb wb (pc + 1) ls (mI (lg_cmp (Int64.ofInt x) (Int64.ofInt y)).toInt :: st) σ Q) : mx_J Y kb wb pc ls (mL y :: mL x :: st) σ Q := by
  intro G p l e R s m args below meth c H locs cells slots k0 w0 Qs lr C hk hw P hl ho D
  have k := K G p l e R s m args below meth c H locs cells slots k0 w0 Qs lr C hk hw P hl (mx_cons (mx_okI _) (mx_tl (mx_tl ho))) D
  rw [List.map_cons, mx_cI] at k
  exact W.lcmp C.1 C.2.1 hd k
theorem mj_i2f {Y : mx_M} {kb wb pc : Nat} {ls : List (Option mx_V)} {st : List mx_V} {σ : mx_S} {Q : mx_R → Prop} {x : Int} (hd : decode Y.2.1 pc = .ok (.i2f, 1))  (K : mx_J Y kb wb (pc + 1) ls (mF (FP.i2f (Int32.ofInt x)) :: st) σ Q) : mx_J Y kb wb pc ls (mI x :: st) σ Q := by
  intro G p l e R s m args below meth c H locs cells slots k0 w0 Qs lr C hk hw P hl ho D
  exact lv_i2f C.1 C.2.1 hd (K G p l e R s m args below meth c H locs cells slots k0 w0 Qs lr C hk hw P hl (mx_cons trivial (mx_tl ho)) D)
theorem mj_fdiv {Y : mx_M} {kb wb pc : Nat} {ls : List (Option mx_V)} {st : List mx_V} {σ : mx_S} {Q : mx_R → Prop} {x y : UInt32} (hd : decode Y.2.1 pc = .ok (.fdiv, 1)) (hne : vf_n32 (FP.fdiv x y)) (K : mx_J Y kb wb (pc + 1) ls (mF (FP.fdiv x y) :: st) σ Q) : mx_J Y kb wb pc ls (mF y :: mF x :: st) σ Q := by
  intro G p l e R s m args below meth c H locs cells slots k0 w0 Qs lr C hk hw P hl ho D
  exact lv_fdiv C.1 C.2.1 hd hne (K G p l e R s m args below meth c H locs cells slots k0 w0 Qs lr C hk hw P hl (mx_cons trivial (mx_tl (mx_tl ho))) D)
theorem mj_fcmp {Y : mx_M} {kb wb pc : Nat} {ls : List (Option mx_V)} {st : List mx_V} {σ : mx_S} {Q : mx_R → Prop} {x y : UInt32} {op : CmpOp} (hd : decode Y.2.1 pc = .ok (.fcmp op, 1))  (K : mx_J Y kb wb (pc + 1) ls (mI (Op.cmpValue (FP.fcmp x y) op).toInt :: st) σ Q) : mx_J Y kb wb pc ls (mF y :: mF x :: st) σ Q := by
  intro G p l e R s m args below meth c H locs cells slots k0 w0 Qs lr C hk hw P hl ho D
  have k := K G p l e R s m args below meth c H locs cells slots k0 w0 Qs lr C hk hw P hl (mx_cons (mx_okI _) (mx_tl (mx_tl ho))) D
  rw [List.map_cons, mx_cI] at k
  exact lv_fcmp C.1 C.2.1 hd k
theorem mj_dup {Y : mx_M} {kb wb pc : Nat} {ls : List (Option mx_V)} {st : List mx_V} {σ : mx_S} {Q : mx_R → Prop} {v : mx_V} (hd : decode Y.2.1 pc = .ok (.dup, 1)) (hv : mx_2 (some v) = false) (K : mx_J Y kb wb (pc + 1) ls (v :: v :: st) σ Q) : mx_J Y kb wb pc ls (v :: st) σ Q := by
  intro G p l e R s m args below meth c H locs cells slots k0 w0 Qs lr C hk hw P hl ho D
  exact lv_dup C.1 C.2.1 hd (mx_cat1 hv) (K G p l e R s m args below meth c H locs cells slots k0 w0 Qs lr C hk hw P hl (mx_cons (mx_hd ho) ho) D)
theorem mj_pop {Y : mx_M} {kb wb pc : Nat} {ls : List (Option mx_V)} {st : List mx_V} {σ : mx_S} {Q : mx_R → Prop} {v : mx_V} (hd : decode Y.2.1 pc = .ok (.pop, 1)) (hv : mx_2 (some v) = false) (K : mx_J Y kb wb (pc + 1) ls (st) σ Q) : mx_J Y kb wb pc ls (v :: st) σ Q := by
  intro G p l e R s m args below meth c H locs cells slots k0 w0 Qs lr C hk hw P hl ho D
  exact lv_pop C.1 C.2.1 hd (mx_cat1 hv) (K G p l e R s m args below meth c H locs cells slots k0 w0 Qs lr C hk hw P hl (mx_tl ho) D)
theorem mj_dup2 {Y : mx_M} {kb wb pc : Nat} {ls : List (Option mx_V)} {st : List mx_V} {σ : mx_S} {Q : mx_R → Prop} {v w : mx_V} (hd : decode Y.2.1 pc = .ok (.dup2, 1)) (hv : mx_2 (some v) = false) (hw9 : mx_2 (some w) = false) (K : mx_J Y kb wb (pc + 1) ls (v :: w :: v :: w :: st) σ Q) : mx_J Y kb wb pc ls (v :: w :: st) σ Q := by
  intro G p l e R s m args below meth c H locs cells slots k0 w0 Qs lr C hk hw P hl ho D
  exact lv_dup2_11 C.1 C.2.1 hd (mx_cat1 hv) (mx_cat1 hw9) (K G p l e R s m args below meth c H locs cells slots k0 w0 Qs lr C hk hw P hl (mx_cons (mx_hd ho) (mx_cons (mx_hd (mx_tl ho)) ho)) D)
theorem mj_istore {Y : mx_M} {kb wb pc : Nat} {ls : List (Option mx_V)} {st : List mx_V} {σ : mx_S} {Q : mx_R → Prop} {k : Nat} {x : Int} {ls' : List (Option mx_V)} (hd : decode Y.2.1 pc = .ok (.istore k, 2))  (hn : k < Y.2.2.1) (hs : mx_s1 ls k (mI x) = ls') (K : mx_J Y kb wb (pc + 2) ls' st σ Q) : mx_J Y kb wb pc ls (mI x :: st) σ Q := by
  intro G p l e R s m args below meth c H locs cells slots k0 w0 Qs lr C hk hw P hl ho D
  subst hs
  exact lv_istore C.1 C.2.1 hd hl.has hn rfl (fun lr' h' => K G p l e R s m args below meth c H locs cells slots k0 w0 Qs lr' C hk hw P (hl.s1 (mx_hd ho) h') (mx_tl ho) D)
theorem mj_istore_n {Y : mx_M} {kb wb pc : Nat} {ls : List (Option mx_V)} {st : List mx_V} {σ : mx_S} {Q : mx_R → Prop} {k : Nat} {x : Int} {f : Fin 4} {ls' : List (Option mx_V)} (hd : decode Y.2.1 pc = .ok (.istore_n f, 1)) (hf : (f : Nat) = k) (hn : k < Y.2.2.1) (hs : mx_s1 ls k (mI x) = ls') (K : mx_J Y kb wb (pc + 1) ls' st σ Q) : mx_J Y kb wb pc ls (mI x :: st) σ Q := by
  intro G p l e R s m args below meth c H locs cells slots k0 w0 Qs lr C hk hw P hl ho D
  subst hs
  exact lv_istore_n C.1 C.2.1 hd hf hl.has hn rfl (fun lr' h' => K G p l e R s m args below meth c H locs cells slots k0 w0 Qs lr' C hk hw P (hl.s1 (mx_hd ho) h') (mx_tl ho) D)
theorem mj_lstore {Y : mx_M} {kb wb pc : Nat} {ls : List (Option mx_V)} {st : List mx_V} {σ : mx_S} {Q : mx_R → Prop} {k : Nat} {x : Int} {ls' : List (Option mx_V)} (hd : decode Y.2.1 pc = .ok (.lstore k, 2))  (hn : k + 1 < Y.2.2.1) (hs : mx_s2 ls k (mL x) = ls') (K : mx_J Y kb wb (pc + 2) ls' st σ Q) : mx_J Y kb wb pc ls (mL x :: st) σ Q := by
  intro G p l e R s m args below meth c H locs cells slots k0 w0 Qs lr C hk hw P hl ho D
  subst hs
  exact lv_lstore C.1 C.2.1 hd hl.has hn rfl (fun lr' h' => K G p l e R s m args below meth c H locs cells slots k0 w0 Qs lr' C hk hw P (hl.s2 (mx_hd ho) h') (mx_tl ho) D)
theorem mj_lstore_n {Y : mx_M} {kb wb pc : Nat} {ls : List (Option mx_V)} {st : List mx_V} {σ : mx_S} {Q : mx_R → Prop} {k : Nat} {x : Int} {f : Fin 4} {ls' : List (Option mx_V)} (hd : decode Y.2.1 pc = .ok (.lstore_n f, 1)) (hf : (f : Nat) = k) (hn : k + 1 < Y.2.2.1) (hs : mx_s2 ls k (mL x) = ls') (K : mx_J Y kb wb (pc + 1) ls' st σ Q) : mx_J Y kb wb pc ls (mL x :: st) σ Q := by
  intro G p l e R s m args below meth c H locs cells slots k0 w0 Qs lr C hk hw P hl ho D
  subst hs
  exact lv_lstore_n C.1 C.2.1 hd hf hl.has hn rfl (fun lr' h' => K G p l e R s m args below meth c H locs cells slots k0 w0 Qs lr' C hk hw P (hl.s2 (mx_hd ho) h') (mx_tl ho) D)
theorem mj_astore {Y : mx_M} {kb wb pc : Nat} {ls : List (Option mx_V)} {st : List mx_V} {σ : mx_S} {Q : mx_R → Prop} {k : Nat} {x : Nat} {ls' : List (Option mx_V)} (hd : decode Y.2.1 pc = .ok (.astore k, 2))  (hn : k < Y.2.2.1) (hs : mx_s1 ls k (mR x) = ls') (K : mx_J Y kb wb (pc + 2) ls' st σ Q) : mx_J Y kb wb pc ls (mR x :: st) σ Q := by
  intro G p l e R s m args below meth c H locs cells slots k0 w0 Qs lr C hk hw P hl ho D
  subst hs
  exact lv_astore C.1 C.2.1 hd hl.has hn rfl (fun lr' h' => K G p l e R s m args below meth c H locs cells slots k0 w0 Qs lr' C hk hw P (hl.s1 (mx_hd ho) h') (mx_tl ho) D)
theorem mj_astore_n {Y : mx_M} {kb wb pc : Nat} {ls : List (Option mx_V)} {st : List mx_V} {σ : mx_S} {Q : mx_R → Prop} {k : Nat} {x : Nat} {f : Fin 4} {ls' : List (Option mx_V)} (hd : decode Y.2.1 pc = .ok (.astore_n f, 1)) (hf : (f : Nat) = k) (hn : k < Y.2.2.1) (hs : mx_s1 ls k (mR x) = ls') (K : mx_J Y kb wb (pc + 1) ls' st σ Q) : mx_J Y kb wb pc ls (mR x :: st) σ Q := by
  intro G p l e R s m args below meth c H locs cells slots k0 w0 Qs lr C hk hw P hl ho D
  subst hs
  exact lv_astore_n C.1 C.2.1 hd hf hl.has hn rfl (fun lr' h' => K G p l e R s m args below meth c H locs cells slots k0 w0 Qs lr' C hk hw P (hl.s1 (mx_hd ho) h') (mx_tl ho) D)
theorem mj_iinc {Y : mx_M} {kb wb pc : Nat} {ls : List (Option mx_V)} {st : List mx_V} {σ : mx_S} {Q : mx_R → Prop} {k : Nat} {n x : Int} {ls' : List (Option mx_V)} (hd : decode Y.2.1 pc = .ok (.iinc k n, 3)) (hx : ls[k]? = some (some (mI x))) (hn : k < Y.2.2.1) (hs : mx_s1 ls k (mI (mx_w (x + n))) = ls') (K : mx_J Y kb wb (pc + 3) ls' st σ Q) : mx_J Y kb wb pc ls st σ Q := by
  intro G p l e R s m args below meth c H locs cells slots k0 w0 Qs lr C hk hw P hl ho D
  subst hs
  obtain ⟨j, hj⟩ := List.getElem?_of_mem (mx_en_of ls 0 k (mI x) hx)
  refine lv_iinc (v := Int32.ofInt (mx_w (x + n))) C.1 C.2.1 hd hl.has (k := j) (i := k) (x := Int32.ofInt x) (by rw [hj, Nat.zero_add]; rfl) (by rw [mx_w_of, Int32.ofInt_add]) hn rfl (fun lr' h' => ?_)
  exact K G p l e R s m args below meth c H locs cells slots k0 w0 Qs lr' C hk hw P (hl.s1 (mx_w_ok _) h') ho D
theorem mj_icmp_eq {Y : mx_M} {kb wb pc : Nat} {ls : List (Option mx_V)} {st : List mx_V} {σ : mx_S} {Q : mx_R → Prop} {x y : Int} {off : Int} {tgt : Nat} (hd : decode Y.2.1 pc = .ok (.if_icmp .eq off, 3)) (ht : (pc : Int) + off = (tgt : Int)) (K : (x = y → mx_J Y kb wb tgt ls st σ Q) ∧ (¬ (x = y) → mx_J Y kb wb (pc + 3) ls st σ Q)) : mx_J Y kb wb pc ls (mI y :: mI x :: st) σ Q := by
  intro G p l e R s m args below meth c H locs cells slots k0 w0 Qs lr C hk hw P hl ho D
  have h1 := mx_hd ho
  have h2 := mx_hd (mx_tl ho)
  exact lv_icmp_eq C.1 C.2.1 hd ht (fun h => K.1 ((mx_eq h2 h1).mp h) G p l e R s m args below meth c H locs cells slots k0 w0 Qs lr C hk hw P hl (mx_tl (mx_tl ho)) D) (fun h => K.2 (fun q => h ((mx_eq h2 h1).mpr q)) G p l e R s m args below meth c H locs cells slots k0 w0 Qs lr C hk hw P hl (mx_tl (mx_tl ho)) D)
theorem mj_icmp_ne {Y : mx_M} {kb wb pc : Nat} {ls : List (Option mx_V)} {st : List mx_V} {σ : mx_S} {Q : mx_R → Prop} {x y : Int} {off : Int} {tgt : Nat} (hd : decode Y.2.1 pc = .ok (.if_icmp .ne off, 3)) (ht : (pc : Int) + off = (tgt : Int)) (K : (¬ x = y → mx_J Y kb wb tgt ls st σ Q) ∧ (¬ (¬ x = y) → mx_J Y kb wb (pc + 3) ls st σ Q)) : mx_J Y kb wb pc ls (mI y :: mI x :: st) σ Q := by
  intro G p l e R s m args below meth c H locs cells slots k0 w0 Qs lr C hk hw P hl ho D
  have h1 := mx_hd ho
  have h2 := mx_hd (mx_tl ho)
  exact lv_icmp_ne C.1 C.2.1 hd ht (fun h => K.1 (fun q => h ((mx_eq h2 h1).mpr q)) G p l e R s m args below meth c H locs cells slots k0 w0 Qs lr C hk hw P hl (mx_tl (mx_tl ho)) D) (fun h => K.2 (fun q => q ((mx_eq h2 h1).mp h)) G p l e R s m args below meth c H locs cells slots k0 w0 Qs lr C hk hw P hl (mx_tl (mx_tl ho)) D)
theorem mj_icmp_lt {Y : mx_M} {kb wb pc : Nat} {ls : List (Option mx_V)} {st : List mx_V} {σ : mx_S} {Q : mx_R → Prop} {x y : Int} {off : Int} {tgt : Nat} (hd : decode Y.2.1 pc = .ok (.if_icmp .lt off, 3)) (ht : (pc : Int) + off = (tgt : Int)) (K : (x < y → mx_J Y kb wb tgt ls st σ Q) ∧ (¬ (x < y) → mx_J Y kb wb (pc + 3) ls st σ Q)) : mx_J Y kb wb pc ls (mI y :: mI x :: st) σ Q := by
  intro G p l e R s m args below meth c H locs cells slots k0 w0 Qs lr C hk hw P hl ho D
  have h1 := mx_hd ho
  have h2 := mx_hd (mx_tl ho)
  exact lv_icmp_lt C.1 C.2.1 hd ht (fun h => K.1 ((mx_lt h2 h1).mp h) G p l e R s m args below meth c H locs cells slots k0 w0 Qs lr C hk hw P hl (mx_tl (mx_tl ho)) D) (fun h => K.2 (fun q => h ((mx_lt h2 h1).mpr q)) G p l e R s m args below meth c H locs cells slots k0 w0 Qs lr C hk hw P hl (mx_tl (mx_tl ho)) D)
theorem mj_icmp_ge {Y : mx_M} {kb wb pc : Nat} {ls : List (Option mx_V)} {st : List mx_V} {σ : mx_S} {Q : mx_R → Prop} {x y : Int} {off : Int} {tgt : Nat} (hd : decode Y.2.1 pc = .ok (.if_icmp .ge off, 3)) (ht : (pc : Int) + off = (tgt : Int)) (K : (y ≤ x → mx_J Y kb wb tgt ls st σ Q) ∧ (¬ (y ≤ x) → mx_J Y kb wb (pc + 3) ls st σ Q)) : mx_J Y kb wb pc ls (mI y :: mI x :: st) σ Q := by
  intro G p l e R s m args below meth c H locs cells slots k0 w0 Qs lr C hk hw P hl ho D
  have h1 := mx_hd ho
  have h2 := mx_hd (mx_tl ho)
  exact lv_icmp_ge C.1 C.2.1 hd ht (fun h => K.1 ((mx_le h1 h2).mp h) G p l e R s m args below meth c H locs cells slots k0 w0 Qs lr C hk hw P hl (mx_tl (mx_tl ho)) D) (fun h => K.2 (fun q => h ((mx_le h1 h2).mpr q)) G p l e R s m args below meth c H locs cells slots k0 w0 Qs lr C hk hw P hl (mx_tl (mx_tl ho)) D)
theorem mj_icmp_gt {Y : mx_M} {kb wb pc : Nat} {ls : List (Option mx_V)} {st : List mx_V} {σ : mx_S} {Q : mx_R → Prop} {x y : Int} {off : Int} {tgt : Nat} (hd : decode Y.2.1 pc = .ok (.if_icmp .gt off, 3)) (ht : (pc : Int) + off = (tgt : Int)) (K : (y < x → mx_J Y kb wb tgt ls st σ Q) ∧ (¬ (y < x) → mx_J Y kb wb (pc + 3) ls st σ Q)) : mx_J Y kb wb pc ls (mI y :: mI x :: st) σ Q := by
  intro G p l e R s m args below meth c H locs cells slots k0 w0 Qs lr C hk hw P hl ho D
  have h1 := mx_hd ho
  have h2 := mx_hd (mx_tl ho)
  exact lv_icmp_gt C.1 C.2.1 hd ht (fun h => K.1 ((mx_lt h1 h2).mp h) G p l e R s m args below meth c H locs cells slots k0 w0 Qs lr C hk hw P hl (mx_tl (mx_tl ho)) D) (fun h => K.2 (fun q => h ((mx_lt h1 h2).mpr q)) G p l e R s m args below meth c H locs cells slots k0 w0 Qs lr C hk hw P hl (mx_tl (mx_tl ho)) D)
theorem mj_icmp_le {Y : mx_M} {kb wb pc : Nat} {ls : List (Option mx_V)} {st : List mx_V} {σ : mx_S} {Q : mx_R → Prop} {x y : Int} {off : Int} {tgt : Nat} (hd : decode Y.2.1 pc = .ok (.if_icmp .le off, 3)) (ht : (pc : Int) + off = (tgt : Int)) (K : (x ≤ y → mx_J Y kb wb tgt ls st σ Q) ∧ (¬ (x ≤ y) → mx_J Y kb wb (pc + 3) ls st σ Q)) : mx_J Y kb wb pc ls (mI y :: mI x :: st) σ Q := by
  intro G p l e R s m args below meth c H locs cells slots k0 w0 Qs lr C hk hw P hl ho D
  have h1 := mx_hd ho
  have h2 := mx_hd (mx_tl ho)
  exact lv_icmp_le C.1 C.2.1 hd ht (fun h => K.1 ((mx_le h2 h1).mp h) G p l e R s m args below meth c H locs cells slots k0 w0 Qs lr C hk hw P hl (mx_tl (mx_tl ho)) D) (fun h => K.2 (fun q => h ((mx_le h2 h1).mpr q)) G p l e R s m args below meth c H locs cells slots k0 w0 Qs lr C hk hw P hl (mx_tl (mx_tl ho)) D)
theorem mj_if_eq {Y : mx_M} {kb wb pc : Nat} {ls : List (Option mx_V)} {st : List mx_V} {σ : mx_S} {Q : mx_R → Prop} {x : Int} {off : Int} {tgt : Nat} (hd : decode Y.2.1 pc = .ok (.ifCond .eq off, 3)) (ht : (pc : Int) + off = (tgt : Int)) (K : (x = 0 → mx_J Y kb wb tgt ls st σ Q) ∧ (¬ (x = 0) → mx_J Y kb wb (pc + 3) ls st σ Q)) : mx_J Y kb wb pc ls (mI x :: st) σ Q := by
  intro G p l e R s m args below meth c H locs cells slots k0 w0 Qs lr C hk hw P hl ho D
  have h1 := mx_hd ho
  exact lv_if_eq C.1 C.2.1 hd ht (fun h => K.1 ((mx_eq h1 mx_ok0).mp h) G p l e R s m args below meth c H locs cells slots k0 w0 Qs lr C hk hw P hl (mx_tl ho) D) (fun h => K.2 (fun q => h ((mx_eq h1 mx_ok0).mpr q)) G p l e R s m args below meth c H locs cells slots k0 w0 Qs lr C hk hw P hl (mx_tl ho) D)
theorem mj_if_ne {Y : mx_M} {kb wb pc : Nat} {ls : List (Option mx_V)} {st : List mx_V} {σ : mx_S} {Q : mx_R → Prop} {x : Int} {off : Int} {tgt : Nat} (hd : decode Y.2.1 pc = .ok (.ifCond .ne off, 3)) (ht : (pc : Int) + off = (tgt : Int)) (K : (¬ x = 0 → mx_J Y kb wb tgt ls st σ Q) ∧ (¬ (¬ x = 0) → mx_J Y kb wb (pc + 3) ls st σ Q)) : mx_J Y kb wb pc ls (mI x :: st) σ Q := by
  intro G p l e R s m args below meth c H locs cells slots k0 w0 Qs lr C hk hw P hl ho D
  have h1 := mx_hd ho
  exact lv_if_ne C.1 C.2.1 hd ht (fun h => K.1 (fun q => h ((mx_eq h1 mx_ok0).mpr q)) G p l e R s m args below meth c H locs cells slots k0 w0 Qs lr C hk hw P hl (mx_tl ho) D) (fun h => K.2 (fun q => q ((mx_eq h1 mx_ok0).mp h)) G p l e R s m args below meth c H locs cells slots k0 w0 Qs lr C hk hw P hl (mx_tl ho) D)
theorem mj_if_lt {Y : mx_M} {kb wb pc : Nat} {ls : List (Option mx_V)} {st : List mx_V} {σ : mx_S} {Q : mx_R → Prop} {x : Int} {off : Int} {tgt : Nat} (hd : decode Y.2.1 pc = .ok (.ifCond .lt off, 3)) (ht : (pc : Int) + off = (tgt : Int)) (K : (x < 0 → mx_J Y kb wb tgt ls st σ Q) ∧ (¬ (x < 0) → mx_J Y kb wb (pc + 3) ls st σ Q)) : mx_J Y kb wb pc ls (mI x :: st) σ Q := by
  intro G p l e R s m args below meth c H locs cells slots k0 w0 Qs lr C hk hw P hl ho D
  have h1 := mx_hd ho
  exact lv_if_lt C.1 C.2.1 hd ht (fun h => K.1 ((mx_lt h1 mx_ok0).mp h) G p l e R s m args below meth c H locs cells slots k0 w0 Qs lr C hk hw P hl (mx_tl ho) D) (fun h => K.2 (fun q => h ((mx_lt h1 mx_ok0).mpr q)) G p l e R s m args below meth c H locs cells slots k0 w0 Qs lr C hk hw P hl (mx_tl ho) D)
theorem mj_if_ge {Y : mx_M} {kb wb pc : Nat} {ls : List (Option mx_V)} {st : List mx_V} {σ : mx_S} {Q : mx_R → Prop} {x : Int} {off : Int} {tgt : Nat} (hd : decode Y.2.1 pc = .ok (.ifCond .ge off, 3)) (ht : (pc : Int) + off = (tgt : Int)) (K : (0 ≤ x → mx_J Y kb wb tgt ls st σ Q) ∧ (¬ (0 ≤ x) → mx_J Y kb wb (pc + 3) ls st σ Q)) : mx_J Y kb wb pc ls (mI x :: st) σ Q := by
  intro G p l e R s m args below meth c H locs cells slots k0 w0 Qs lr C hk hw P hl ho D
  have h1 := mx_hd ho
  exact lv_if_ge C.1 C.2.1 hd ht (fun h => K.1 ((mx_le mx_ok0 h1).mp h) G p l e R s m args below meth c H locs cells slots k0 w0 Qs lr C hk hw P hl (mx_tl ho) D) (fun h => K.2 (fun q => h ((mx_le mx_ok0 h1).mpr q)) G p l e R s m args below meth c H locs cells slots k0 w0 Qs lr C hk hw P hl (mx_tl ho) D)
theorem mj_if_gt {Y : mx_M} {kb wb pc : Nat} {ls : List (Option mx_V)} {st : List mx_V} {σ : mx_S} {Q : mx_R → Prop} {x : Int} {off : Int} {tgt : Nat} (hd : decode Y.2.1 pc = .ok (.ifCond .gt off, 3)) (ht : (pc : Int) + off = (tgt : Int)) (K : (0 < x → mx_J Y kb wb tgt ls st σ Q) ∧ (¬ (0 < x) → mx_J Y kb wb (pc + 3) ls st σ Q)) : mx_J Y kb wb pc ls (mI x :: st) σ Q := by
  intro G p l e R s m args below meth c H locs cells slots k0 w0 Qs lr C hk hw P hl ho D
  have h1 := mx_hd ho
  exact lv_if_gt C.1 C.2.1 hd ht (fun h => K.1 ((mx_lt mx_ok0 h1).mp h) G p l e R s m args below meth c H locs cells slots k0 w0 Qs lr C hk hw P hl (mx_tl ho) D) (fun h => K.2 (fun q => h ((mx_lt mx_ok0 h1).mpr q)) G p l e R s m args below meth c H locs cells slots k0 w0 Qs lr C hk hw P hl (mx_tl ho) D)
theorem mj_if_le {Y : mx_M} {kb wb pc : Nat} {ls : List (Option mx_V)} {st : List mx_V} {σ : mx_S} {Q : mx_R → Prop} {x : Int} {off : Int} {tgt : Nat} (hd : decode Y.2.1 pc = .ok (.ifCond .le off, 3)) (ht : (pc : Int) + off = (tgt : Int)) (K : (x ≤ 0 → mx_J Y kb wb tgt ls st σ Q) ∧ (¬ (x ≤ 0) → mx_J Y kb wb (pc + 3) ls st σ Q)) : mx_J Y kb wb pc ls (mI x :: st) σ Q := by
  intro G p l e R s m args below meth c H locs cells slots k0 w0 Qs lr C hk hw P hl ho D
  have h1 := mx_hd ho
  exact lv_if_le C.1 C.2.1 hd ht (fun h => K.1 ((mx_le h1 mx_ok0).mp h) G p l e R s m args below meth c H locs cells slots k0 w0 Qs lr C hk hw P hl (mx_tl ho) D) (fun h => K.2 (fun q => h ((mx_le h1 mx_ok0).mpr q)) G p l e R s m args below meth c H locs cells slots k0 w0 Qs lr C hk hw P hl (mx_tl ho) D)
theorem mj_goto {Y : mx_M} {kb wb pc : Nat} {ls : List (Option mx_V)} {st : List mx_V} {σ : mx_S} {Q : mx_R → Prop} {off : Int} {tgt : Nat} (hd : decode Y.2.1 pc = .ok (.goto off, 3)) (ht : (pc : Int) + off = (tgt : Int)) (K : mx_J Y kb wb tgt ls st σ Q) : mx_J Y kb wb pc ls st σ Q := by
  intro G p l e R s m args below meth c H locs cells slots k0 w0 Qs lr C hk hw P hl ho D
  exact lv_goto C.1 C.2.1 hd ht (K G p l e R s m args below meth c H locs cells slots k0 w0 Qs lr C hk hw P hl ho D)
theorem mj_ifnull {Y : mx_M} {kb wb pc : Nat} {ls : List (Option mx_V)} {st : List mx_V} {σ : mx_S} {Q : mx_R → Prop} {a : Option Nat} {off : Int} {tgt : Nat} (hd : decode Y.2.1 pc = .ok (.ifnull off, 3)) (ht : (pc : Int) + off = (tgt : Int)) (K : (a = none → mx_J Y kb wb tgt ls st σ Q) ∧ (¬ (a = none) → mx_J Y kb wb (pc + 3) ls st σ Q)) : mx_J Y kb wb pc ls (Sum.inr (Sum.inl a) :: st) σ Q := by
  intro G p l e R s m args below meth c H locs cells slots k0 w0 Qs lr C hk hw P hl ho D
  cases a with
  | none => exact lv_ifnullN C.1 C.2.1 hd ht (K.1 rfl G p l e R s m args below meth c H locs cells slots k0 w0 Qs lr C hk hw P hl (mx_tl ho) D)
  | some a => exact lv_ifnull C.1 C.2.1 hd (K.2 (fun h => nomatch h) G p l e R s m args below meth c H locs cells slots k0 w0 Qs lr C hk hw P hl (mx_tl ho) D)
theorem mj_ifnonnull {Y : mx_M} {kb wb pc : Nat} {ls : List (Option mx_V)} {st : List mx_V} {σ : mx_S} {Q : mx_R → Prop} {a : Option Nat} {off : Int} {tgt : Nat} (hd : decode Y.2.1 pc = .ok (.ifnonnull off, 3)) (ht : (pc : Int) + off = (tgt : Int)) (K : (¬ (a = none) → mx_J Y kb wb tgt ls st σ Q) ∧ (a = none → mx_J Y kb wb (pc + 3) ls st σ Q)) : mx_J Y kb wb pc ls (Sum.inr (Sum.inl a) :: st) σ Q := by
  intro G p l e R s m args below meth c H locs cells slots k0 w0 Qs lr C hk hw P hl ho D
  cases a with
  | none => exact lv_ifnonnullN C.1 C.2.1 hd (K.2 rfl G p l e R s m args below meth c H locs cells slots k0 w0 Qs lr C hk hw P hl (mx_tl ho) D)
  | some a => exact lv_ifnonnull C.1 C.2.1 hd ht (K.1 (fun h => nomatch h) G p l e R s m args below meth c H locs cells slots k0 w0 Qs lr C hk hw P hl (mx_tl ho) D)
theorem mj_ret {Y : mx_M} {kb wb pc : Nat} {ls : List (Option mx_V)} {σ : mx_S} {Q : mx_R → Prop} {v : Option mx_V} (hr : mx_rt Y pc v) (K : Q (.inl (v, σ))) : mx_J Y kb wb pc ls v.toList σ Q := by
  intro G p l e R s m args below meth c H locs cells slots k0 w0 Qs lr C hk hw P hl ho D
  exact D.1 pc v σ H locs cells slots lr K rfl P (fun x hx => by subst hx; exact mx_hd ho) hr
theorem mj_thr {Y : mx_M} {kb wb pc : Nat} {ls : List (Option mx_V)} {σ : mx_S} {Q : mx_R → Prop} {E : String} (hr : mx_tn Y pc E) (hkb : sK σ + 1 ≤ kb) (hwb : sW σ + 6 ≤ wb) (K : Q (.inr (E, (σ.1, σ.2.1, σ.2.2.1, sK σ + 1, sW σ + 6)))) : mx_J Y kb wb pc ls [] σ Q := by
  intro G p l e R s m args below meth c H locs cells slots k0 w0 Qs lr C hk hw P hl ho D
  exact D.2.2 pc E σ H locs cells slots lr K rfl hkb hwb P (by rw [hl.2.1, C.2.2.1]) hr
