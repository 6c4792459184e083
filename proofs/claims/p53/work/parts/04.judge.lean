/-! The judgement, a method's contract, and how one gives the other. -/
abbrev sB (σ : mx_S) : Nat := σ.1
abbrev sH (σ : mx_S) : Nat → Option mx_E := σ.2.1
abbrev sN (σ : mx_S) : Nat := σ.2.2.1
abbrev sK (σ : mx_S) : Nat := σ.2.2.2.1
abbrev sW (σ : mx_S) : Nat := σ.2.2.2.2
/-- the next address is another one -/
abbrev mx_at_n (σ : mx_S) (n : Nat) : mx_S := (σ.1, σ.2.1, n, σ.2.2.2)
def mx_C (l : Launch) (Y : mx_M) (p : Program) (R : Room) (s : State) (m : MethodId) (args : Array Value) (meth : Method) (c : Code) : Prop :=
  p.tables.exec = Jvm.exec ∧ c.code = Y.2.1 ∧ c.maxLocals = Y.2.2.1 ∧ s.vm.findClass Y.1.cls = some m.cls ∧ (∀ w ∈ mx_ws, w.before args s = true) ∧ meth.name = Y.1.name ∧ R.frames = Y.2.2.2.2.1 ∧ R.locals = Y.2.2.2.2.2.1 ∧ l.stackTraces = false ∧ c.exceptionTable.toList = tableOf Y.2.2.2.2.2.2 ∧ meth.locks = false
def mx_P (G : mx_G) (s : State) (kb wb k0 w0 cells slots : Nat) (σ : mx_S) (H : Heap) (locs : List Loc) : Prop :=
  mx_W G σ.1 s s.heap ∧ mx_H G σ H ∧ va_S (mx_A σ.1) s.heap H locs ∧ cells + k0 = sK σ ∧ slots + w0 = sW σ ∧ sK σ ≤ kb ∧ sW σ ≤ wb
/-- a return instruction that fits the answer -/
def mx_rt (Y : mx_M) (pc : Nat) : Option mx_V → Prop
  | none => decode Y.2.1 pc = .ok (.return_, 1) ∧ Y.2.2.2.1 = none
  | some (.inl x) => decode Y.2.1 pc = .ok (.ireturn, 1) ∧ ∃ ty : FieldType, Y.2.2.2.1 = some ty ∧ narrow ty (.int (Int32.ofInt x)) = .int (Int32.ofInt x)
  | some (.inr (.inl _)) => decode Y.2.1 pc = .ok (.areturn, 1) ∧ ∃ rt : FieldType, Y.2.2.2.1 = some rt ∧ ((∃ n, rt = .object n) ∨ ∃ t, rt = .array t)
  | some (.inr (.inr (.inl _))) => decode Y.2.1 pc = .ok (.lreturn, 1) ∧ Y.2.2.2.1 = some .long
  | some (.inr (.inr (.inr (.inl _)))) => decode Y.2.1 pc = .ok (.freturn, 1) ∧ Y.2.2.2.1 = some .float
  | some (.inr (.inr (.inr (.inr _)))) => decode Y.2.1 pc = .ok (.dreturn, 1) ∧ Y.2.2.2.1 = some .double
/-- no handler takes it -/
def mx_ps (Y : mx_M) (pc : Nat) (E : String) : Prop := ∀ z ∈ tableOf Y.2.2.2.2.2.2, covers z pc = false ∨ (z.catchType ≠ 0 ∧ ∃ nm : String, Cond.classLink Y.1.cls z.catchType nm ∈ mx_ws ∧ (E, nm) ∈ mx_nc)
/-- a handler takes it, and goes on at hp -/
def mx_ch (Y : mx_M) (pc : Nat) (E : String) (hp : Nat) : Prop := ∃ (pre : List ExceptionTableEntry) (x : ExceptionTableEntry) (suf : List ExceptionTableEntry) (name : String), tableOf Y.2.2.2.2.2.2 = pre ++ x :: suf ∧
  (∀ z ∈ pre, covers z pc = false ∨ (z.catchType ≠ 0 ∧ ∃ nm : String, Cond.classLink Y.1.cls z.catchType nm ∈ mx_ws ∧ (E, nm) ∈ mx_nc)) ∧ covers x pc = true ∧ x.catchType ≠ 0 ∧ Cond.classLink Y.1.cls x.catchType name ∈ mx_ws ∧ Cond.castable E name ∈ mx_nw ∧ x.handlerPc = hp
/-- 'throw new E(text)' stands at pc -/
def mx_tn (Y : mx_M) (pc : Nat) (E : String) : Prop := ∃ (ik is ic i ix : Nat) (rx : ByteArray) (text : String) (names : List String), (decode rx 0 = .ok (.aload_n 0, 1) ∧ decode rx 1 = .ok (.aload_n 1, 1) ∧ decode rx 2 = .ok (.invokespecial ix, 3) ∧ decode rx 5 = .ok (.return_, 1)) ∧ decode Y.2.1 pc = .ok (.new ik, 3) ∧ decode Y.2.1 (pc + 3) = .ok (.dup, 1) ∧
  ((decode Y.2.1 (pc + 4) = .ok (.ldc is, 2) ∧ decode Y.2.1 (pc + 6) = .ok (.invokespecial ic, 3) ∧ decode Y.2.1 (pc + 9) = .ok (.athrow, 1)) ∨ (decode Y.2.1 (pc + 4) = .ok (.ldc_w is, 3) ∧ decode Y.2.1 (pc + 7) = .ok (.invokespecial ic, 3) ∧ decode Y.2.1 (pc + 10) = .ok (.athrow, 1))) ∧
  mx_str[i]? = some (Y.1.cls, is, text) ∧ Bundle.fit E = true ∧ (∀ n ∈ names, Bundle.fit n = true) ∧ Cond.classLink Y.1.cls ik E ∈ mx_ws ∧ Cond.initialized E ∈ mx_ws ∧ (∀ w ∈ mx_atX Y.1.cls ic E ix rx names, w ∈ mx_ws ∨ w ∈ mx_nw) ∧ Y.2.2.2.2.2.2 = [] ∧ names.length + 3 < Y.2.2.2.2.1 ∧ 13 * (names.length + 1) + 43 ≤ Y.2.2.2.2.2.1
/-- what becomes of the frame at its ends -/
def mx_D (G : mx_G) (p : Program) (l : Launch) (e : Env) (R : Room) (s : State) (m : MethodId) (args : Array Value) (below : List Frame) (meth : Method) (c : Code) (Y : mx_M) (kb wb k0 w0 b : Nat) (Q : mx_R → Prop) (Qs : State → Prop) : Prop :=
  (∀ (pc : Nat) (v : Option mx_V) (σ : mx_S) (H : Heap) (locs : List Loc) (cells slots : Nat) (lr : Array Slot), Q (.inl (v, σ)) → σ.1 = b → mx_P G s kb wb k0 w0 cells slots σ H locs → (∀ x, v = some x → mx_ok x) → mx_rt Y pc v → W p l e R s m args below meth c H locs cells slots Qs (F0 m pc lr (v.toList.map mx_c))) ∧
  (∀ (pc : Nat) (E : String) (σ : mx_S) (n : Nat) (H : Heap) (locs : List Loc) (cells slots : Nat) (lr : Array Slot) (rest : List Value) (q : Addr) (ce : Cell), Q (.inr (E, σ)) → σ.1 = b → sN σ ≤ n → mx_P G s kb wb k0 w0 cells slots (mx_at_n σ n) H locs → H[q]? = some ce → ce.vm = .none → s.vm.findClass E = some ce.cls → mx_ps Y pc E → vx_W p l e R s m args below meth c H locs cells slots Qs (F0 m pc lr rest) q) ∧
  (∀ (pc : Nat) (E : String) (σ : mx_S) (H : Heap) (locs : List Loc) (cells slots : Nat) (lr : Array Slot), Q (.inr (E, (σ.1, σ.2.1, σ.2.2.1, sK σ + 1, sW σ + 6))) → σ.1 = b → sK σ + 1 ≤ kb → sW σ + 6 ≤ wb → mx_P G s kb wb k0 w0 cells slots σ H locs → lr.size = c.maxLocals → mx_tn Y pc E → W p l e R s m args below meth c H locs cells slots Qs (F0 m pc lr []))
/-- the frame of Y at pc, with these locals, this stack and this heap, comes to an end with Q; kb and wb bound what is made -/
def mx_J (Y : mx_M) (kb wb pc : Nat) (ls : List (Option mx_V)) (st : List mx_V) (σ : mx_S) (Q : mx_R → Prop) : Prop :=
  ∀ (G : mx_G) (p : Program) (l : Launch) (e : Env) (R : Room) (s : State) (m : MethodId) (args : Array Value) (below : List Frame) (meth : Method) (c : Code) (H : Heap) (locs : List Loc) (cells slots k0 w0 : Nat) (Qs : State → Prop) (lr : Array Slot),
    mx_C l Y p R s m args meth c → R.cells + k0 = kb → R.slots + w0 = wb → mx_P G s kb wb k0 w0 cells slots σ H locs → mx_l Y.2.2.1 ls lr → (∀ v ∈ st, mx_ok v) → mx_D G p l e R s m args below meth c Y kb wb k0 w0 σ.1 Q Qs →
    W p l e R s m args below meth c H locs cells slots Qs (F0 m pc lr (st.map mx_c))
def mx_rm (Y : mx_M) (k w : Nat) : Room := { frames := Y.2.2.2.2.1, cells := k, slots := w, locals := Y.2.2.2.2.2.1 }
def mx_cw (Y : mx_M) : Cond := if Y.2.2.2.2.2.2 = [] then Cond.code Y.1 Y.2.1 Y.2.2.1 Y.2.2.2.1 else Cond.codeWith Y.1 Y.2.1 Y.2.2.1 Y.2.2.2.1 Y.2.2.2.2.2.2
def mx_wy (Y : mx_M) : List Cond := mx_cw Y :: mx_ws
def mx_pre (G : mx_G) (σ : mx_S) (As : List mx_V) : Array Value → State → Prop := va_Pc (As.map mx_c) (fun U => (∀ w ∈ As, mx_ok w) ∧ mx_W G σ.1 U U.heap ∧ mx_H G σ U.heap)
def mx_Qc (G : mx_G) (b : Nat) (v : Option mx_V) (σ' : mx_S) : Array Value → State → Outcome → State → Prop := fun _ st o t => o = .returned (v.map mx_c) ∧ (∀ x, v = some x → mx_ok x) ∧ mx_H G σ' t.heap ∧ va_F (mx_A b) st t
def mx_XC (G : mx_G) (b : Nat) (E : String) (σ' : mx_S) : String → State → State → Prop := fun E' st t => E' = E ∧ (∃ n : Nat, sN σ' ≤ n ∧ mx_H G (mx_at_n σ' n) t.heap) ∧ va_F (mx_A b) st t
/-- a method's contract at one start: its arguments, its heap, and what comes of them -/
def mx_MS (Y : mx_M) (As : List mx_V) (σ : mx_S) : mx_R → Prop
  | .inl r => r.2.1 = σ.1 ∧ sK σ ≤ sK r.2 ∧ sW σ ≤ sW r.2 ∧ ∀ (l : Launch) (G : mx_G), l.stackTraces = false → Met l Y.1 (mx_wy Y) (mx_rm Y (sK r.2 - sK σ) (sW r.2 - sW σ)) (mx_pre G σ As) (mx_Qc G σ.1 r.1 r.2) (sK r.2 - sK σ) (sW r.2 - sW σ) (mx_A σ.1)
  | .inr r => r.2.1 = σ.1 ∧ sK σ ≤ sK r.2 ∧ sW σ ≤ sW r.2 ∧ Y.2.2.2.2.2.2 = [] ∧ ∀ (l : Launch) (G : mx_G), l.stackTraces = false → vx_Met l Y.1 (mx_wy Y) (mx_rm Y (sK r.2 - sK σ) (sW r.2 - sW σ)) (mx_pre G σ As) (fun _ _ _ _ => False) (mx_XC G σ.1 r.1 r.2) (sK r.2 - sK σ) (sW r.2 - sW σ) (mx_A σ.1)
theorem mx_ws_good : ∀ w ∈ mx_ws, ((w.onTables && w.keeps) = true ∨ ∃ ty, w = .arrayClass ty) := fun w h => good_of_word (List.mem_filter.mp h).2
theorem mx_pre_blind (G : mx_G) (σ : mx_S) (As : List mx_V) : FrameBlind (mx_pre G σ As) := fun a U g mk q => ⟨q.1, q.2.1, q.2.2.1.same rfl, q.2.2.2⟩
/-- Met.ofW for a body with handlers -/
theorem mx_ofWH {l : Launch} {y : MethodName} {ws ws' : List Cond} {rm : Room} {Pc : Array Value → State → Prop} {Qc : Array Value → State → Outcome → State → Prop} {mc ms : Nat} {free : Addr → Prop} {cc : ByteArray} {maxL : Nat} {ret : Option FieldType} {hh : List (Nat × Nat × Nat × Nat)}
    (hy : plainName y.cls = true) (hw : ws = Cond.codeWith y cc maxL ret hh :: ws')
    (body : ∀ p e s m args below meth c s₁, BodyLoose p l y (headSpec ws rm) cc maxL ret e s m args below meth c s₁ → c.maxLocals = maxL → Pc args s →
      W p l e (headSpec ws rm).room s m args below meth c s.heap [] 0 0 (MQ below Qc args s mc ms free) (entryFrame m args maxL)) : Met l y ws rm Pc Qc mc ms free := by
  have h := vx_ofWH (l := l) (y := y) (ws := ws) (rm := rm) (Pc := Pc) (Qc := Qc) (XC := fun _ _ _ => False) (mc := mc) (ms := ms) (free := free) hy hw (fun p e s m args below meth c s₁ B hml hP => vx_ret (body p e s m args below meth c s₁ B hml hP))
  intro p e ha hc hk s m args below hf hap hp hK
  obtain ⟨t, o, h1, h2, h3, h4⟩ := h p e ha hc hk s m args below hf hap hp hK
  refine ⟨t, o, h1, h2, h3, ?_⟩
  rcases h4 with h4 | ⟨q, -, E, ce, L, hx, -⟩
  · exact h4
  · exact hx.elim
