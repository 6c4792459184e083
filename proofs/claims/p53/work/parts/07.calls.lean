/-! Calls. -/
def mx_sz (st : List mx_V) : Nat := (st.map fun v => (mx_c v).category).sum
/-- the words and the room of a call of Y' by Y -/
def mx_rmk (Y Y' : mx_M) (n : Nat) : Prop := mx_cw Y' ∈ mx_ws ∧ Cond.initialized Y'.1.cls ∈ mx_ws ∧ (Y'.1.cls ≠ "java/lang/invoke/MethodHandle" ∧ Y'.1.cls ≠ "java/lang/invoke/VarHandle") ∧ (parseMethodDescriptor Y'.1.desc).map (fun d => d.parameters.length) = some n ∧ Y'.2.2.2.2.1 + 1 ≤ Y.2.2.2.2.1 ∧ 8 + (Y'.2.2.1 + 11) + Y'.2.2.2.2.2.1 ≤ Y.2.2.2.2.2.1
def mx_kV (Y Y' : mx_M) (idx n : Nat) : Prop := mx_rmk Y Y' n ∧ Y'.2.2.2.2.2.2 = [] ∧ Cond.methodLink Y.1.cls idx Y'.1 ∈ mx_ws ∧ Cond.instanceMethod Y'.1 ∈ mx_ws ∧ Cond.selects Y'.1.cls Y'.1 Y'.1 ∈ mx_ws
def mx_kS (Y Y' : mx_M) (idx n : Nat) : Prop := mx_rmk Y Y' n ∧ Y'.2.2.2.2.2.2 = [] ∧ Cond.methodLink Y.1.cls idx Y'.1 ∈ mx_ws ∧ Cond.static Y'.1 ∈ mx_ws
def mx_kI (Y Y' : mx_M) (idx n : Nat) : Prop := mx_rmk Y Y' n ∧ Y'.2.2.2.2.2.2 = [] ∧ Cond.methodLink Y.1.cls idx Y'.1 ∈ mx_ws ∧ Cond.instanceMethod Y'.1 ∈ mx_ws ∧ Y'.1.name = "<init>" ∧ Y'.2.2.2.1 = none
def mx_kSN (Y Y' : mx_M) (idx n : Nat) : Prop := mx_rmk Y Y' n ∧ Y'.2.2.2.2.2.2 = [] ∧ (∃ host, Cond.methodLinkNest Y.1.cls idx Y'.1 host ∈ mx_nw) ∧ Cond.static Y'.1 ∈ mx_ws
def mx_kIN (Y Y' : mx_M) (idx n : Nat) : Prop := mx_rmk Y Y' n ∧ Y'.2.2.2.2.2.2 = [] ∧ (∃ host, Cond.methodLinkNest Y.1.cls idx Y'.1 host ∈ mx_nw) ∧ Cond.instanceMethod Y'.1 ∈ mx_ws ∧ Y'.1.name = "<init>" ∧ Y'.2.2.2.1 = none
def mx_kSW (Y Y' : mx_M) (idx n : Nat) : Prop := mx_rmk Y Y' n ∧ Y'.2.2.2.2.2.2 ≠ [] ∧ Cond.methodLink Y.1.cls idx Y'.1 ∈ mx_ws ∧ Cond.static Y'.1 ∈ mx_ws
section CL
variable {p : Program} {l : Launch} {e : Env} {R : Room} {s : State} {m : MethodId} {args : Array Value} {below : List Frame} {meth : Method} {c : Code} {H : Heap} {locs : List Loc} {cells slots : Nat} {Qs : State → Prop}
theorem mx_wy_ok {Y' : mx_M} (hc : mx_cw Y' ∈ mx_ws) (hts : ∀ w ∈ mx_ws, w.before args s = true) : ∀ w ∈ mx_wy Y', ∀ (a' : Array Value) (U : State), s.WarmedH U.vm → w.before a' U = true := by
  intro w hw a' U hW
  have h : w ∈ mx_ws := by
    rcases List.mem_cons.mp hw with q | q
    · rw [q]; exact hc
    · exact q
  exact word_at hW (mx_ws_good w h) (hts w h)
theorem mx_cw0 {Y' : mx_M} (h : Y'.2.2.2.2.2.2 = []) : mx_cw Y' = Cond.code Y'.1 Y'.2.1 Y'.2.2.1 Y'.2.2.2.1 := if_pos h
theorem mx_cwH {Y' : mx_M} (h : Y'.2.2.2.2.2.2 ≠ []) : mx_cw Y' = Cond.codeWith Y'.1 Y'.2.1 Y'.2.2.1 Y'.2.2.2.1 Y'.2.2.2.2.2.2 := if_neg h
theorem mx_fix {Y : mx_M} (C : mx_C l Y p R s m args meth c) : CallFix p m c Y.2.1 Y.2.2.1 s args mx_ws Y.1.cls := ⟨C.1, C.2.1, C.2.2.1, C.2.2.2.1, C.2.2.2.2.1⟩
theorem mx_psig {Y' : mx_M} {n : Nat} (h : (parseMethodDescriptor Y'.1.desc).map (fun d => d.parameters.length) = some n) : ∀ sig, parseMethodDescriptor Y'.1.desc = some sig → n = sig.parameters.length := fun sig hs => by
  rw [hs] at h
  exact (Option.some.inj h).symm
theorem mx_CB {Y Y' : mx_M} {idx n mc ms : Nat} (C : mx_C l Y p R s m args meth c) (h : mx_rmk Y Y' n) (h0 : Y'.2.2.2.2.2.2 = []) (hl : (Cond.methodLink Y.1.cls idx Y'.1).before args s = true) :
    CallB R s args Y.1.cls idx Y'.1 Y'.2.1 Y'.2.2.1 Y'.2.2.2.1 (mx_wy Y') (mx_rm Y' mc ms) mc ms n := by
  obtain ⟨h1, h2, h3, h4, h5, h6⟩ := h
  refine ⟨rfl, rfl, by rw [C.2.2.2.2.2.2.1]; exact h5, by rw [C.2.2.2.2.2.2.2.1]; exact h6, mx_wy_ok h1 C.2.2.2.2.1, ?_, ?_, C.2.2.2.2.1 _ h2, h3, mx_psig h4, hl⟩
  · rw [← mx_cw0 h0]; exact List.mem_cons_self
  · rw [← mx_cw0 h0]; exact C.2.2.2.2.1 _ h1
theorem mx_CN {Y Y' : mx_M} {idx n mc ms : Nat} {host : String} (C : mx_C l Y p R s m args meth c) (h : mx_rmk Y Y' n) (h0 : Y'.2.2.2.2.2.2 = []) (hl : va_Nw (.methodLinkNest Y.1.cls idx Y'.1 host) s) :
    va_CN R s args Y.1.cls idx Y'.1 host Y'.2.1 Y'.2.2.1 Y'.2.2.2.1 (mx_wy Y') (mx_rm Y' mc ms) mc ms n := by
  obtain ⟨h1, h2, h3, h4, h5, h6⟩ := h
  refine ⟨⟨rfl, rfl, by rw [C.2.2.2.2.2.2.1]; exact h5, by rw [C.2.2.2.2.2.2.2.1]; exact h6, mx_wy_ok h1 C.2.2.2.2.1, ?_⟩, ?_, C.2.2.2.2.1 _ h2, h3, mx_psig h4, va_Nw.use rfl hl⟩
  · rw [← mx_cw0 h0]; exact List.mem_cons_self
  · rw [← mx_cw0 h0]; exact C.2.2.2.2.1 _ h1
theorem mx_pre_at {G : mx_G} {kb wb k0 w0 : Nat} {σ : mx_S} (P : mx_P G s kb wb k0 w0 cells slots σ H locs) (As : List mx_V) (hA : ∀ w ∈ As, mx_ok w) : ∀ U : State, U.heap = H → s.WarmedH U.vm → mx_pre G σ As (As.map mx_c).toArray U := by
  intro U hU hW
  refine ⟨rfl, hA, ?_, by rw [hU]; exact P.2.1⟩
  rw [hU]
  exact (P.1.kept P.2.2.1.1 (fun q h1 h2 => P.2.2.1.2.1 q h1 h2)).warm hW
theorem mx_recv {G : mx_G} {kb wb k0 w0 : Nat} {σ : mx_S} {C9 : String} {b ci : Nat} {fs : List mx_V} (P : mx_P G s kb wb k0 w0 cells slots σ H locs) (hb : sH σ b = some (.inl (ci, fs))) (hci : (vwCl[ci]?).map (fun q => q.1) = some C9) : ∃ cellB : Cell, H[b]? = some cellB ∧ cellB.vm.isStatics = false ∧ s.vm.findClass C9 = some cellB.cls := by
  obtain ⟨r, hr, cell, g1, g2, g3, -⟩ := (mx_H_o P.2.1 hb).1
  refine ⟨cell, g1, by rw [g3]; rfl, ?_⟩
  rw [g2, ← (P.1.2.1 ci r hr).2.1]
  rw [show vwCl[ci]? = some r from hr] at hci
  cases hci
  rfl
/-- behind a call that returned -/
theorem mx_after {G : mx_G} {kb wb k0 w0 mc ms pc : Nat} {σ σ' : mx_S} {v : Option mx_V} {lr : Array Slot} {st0 rest : List Value} {a : Array Value} (hr : va_Run p l e R s m args below meth c H locs cells slots mc ms (F0 m pc lr st0) rest (mx_Qc G σ.1 v σ' a) (mx_A σ.1))
    (P : mx_P G s kb wb k0 w0 cells slots σ H locs) (hB : σ'.1 = σ.1) (hmc : sK σ + mc = sK σ') (hms : sW σ + ms = sW σ') (hkb : sK σ' ≤ kb) (hwb : sW σ' ≤ wb)
    (K : ∀ (H1 : Heap) (locs1 : List Loc), (∀ x, v = some x → mx_ok x) → mx_P G s kb wb k0 w0 (cells + mc) (slots + ms) σ' H1 locs1 → W p l e R s m args below meth c H1 locs1 (cells + mc) (slots + ms) Qs (F0 m (pc + 3) lr ((v.map mx_c).toList ++ rest))) : W p l e R s m args below meth c H locs cells slots Qs (F0 m pc lr st0) := by
  intro T hT X
  obtain ⟨v0, st₀, t, T', L, h0, X', hL, e1, e2, ⟨hv, hok, hH, hF⟩, st⟩ := hr T hT X
  cases hv
  obtain ⟨hz, hk⟩ := hF
  rw [h0] at hz hk
  obtain ⟨p1, p2, p3, p4, p5, p6, p7⟩ := P
  have hS : va_S (mx_A σ'.1) s.heap T'.heap (locs ++ L) := by
    rw [hB]
    refine ⟨Nat.le_trans p3.1 (by rw [e1]; exact hz), fun q h1 h2 => by rw [e1, hk q (Nat.lt_of_lt_of_le h1 p3.1) h2]; exact p3.2.1 q h1 h2, fun q hq => ?_⟩
    rcases List.mem_append.mp hq with h | h
    · exact p3.2.2 q h
    · exact hL q h
  obtain ⟨t2, a1, b1⟩ := K T'.heap (locs ++ L) hok ⟨by rw [hB]; exact p1, by rw [e1]; exact hH, hS, by omega, by omega, hkb, hwb⟩ T' rfl X'
  exact ⟨t2, st t2 a1, b1⟩
/-- behind a call that threw -/
theorem mx_afterX {G : mx_G} {kb wb k0 w0 mc ms pc : Nat} {σ σ' : mx_S} {E : String} {lr : Array Slot} {st0 rest : List Value} {Qa : State → Outcome → State → Prop} (hQ : ∀ a b c, Qa a b c → False) (hr : vx_Run p l e R s m args below meth c H locs cells slots mc ms (F0 m pc lr st0) rest Qa (mx_XC G σ.1 E σ') (mx_A σ.1))
    (P : mx_P G s kb wb k0 w0 cells slots σ H locs) (hB : σ'.1 = σ.1) (hmc : sK σ + mc = sK σ') (hms : sW σ + ms = sW σ') (hkb : sK σ' ≤ kb) (hwb : sW σ' ≤ wb)
    (K : ∀ (n : Nat) (H1 : Heap) (locs1 : List Loc) (q : Addr) (ce : Cell), sN σ' ≤ n → mx_P G s kb wb k0 w0 (cells + mc) (slots + ms) (mx_at_n σ' n) H1 locs1 → H1[q]? = some ce → ce.vm = .none → s.vm.findClass E = some ce.cls → vx_W p l e R s m args below meth c H1 locs1 (cells + mc) (slots + ms) Qs (F0 m pc lr rest) q) : W p l e R s m args below meth c H locs cells slots Qs (F0 m pc lr st0) := by
  intro T hT X
  rcases hr T hT X with ⟨v0, st₀, t, T', L, h0, X', hL, e1, e2, hF, st⟩ | ⟨q, st₀, t, T', L, E9, ce, h0, X', hL, e1, e2, ⟨hE, ⟨n, hn, hH⟩, hF⟩, hce, hcv, hcl, st⟩
  · exact (hQ _ _ _ hF).elim
  subst hE
  obtain ⟨hz, hk⟩ := hF
  rw [h0] at hz hk
  obtain ⟨p1, p2, p3, p4, p5, p6, p7⟩ := P
  have hS : va_S (mx_A σ'.1) s.heap T'.heap (locs ++ L) := by
    rw [hB]
    refine ⟨Nat.le_trans p3.1 (by rw [e1]; exact hz), fun q h1 h2 => by rw [e1, hk q (Nat.lt_of_lt_of_le h1 p3.1) h2]; exact p3.2.1 q h1 h2, fun q hq => ?_⟩
    rcases List.mem_append.mp hq with h | h
    · exact p3.2.2 q h
    · exact hL q h
  obtain ⟨t2, a1, b1⟩ := K n T'.heap (locs ++ L) q ce hn ⟨by show mx_W G σ'.1 s s.heap; rw [hB]; exact p1, by rw [e1]; exact hH, hS, by show cells + mc + k0 = sK σ'; omega, by show slots + ms + w0 = sW σ'; omega, hkb, hwb⟩ (by rw [e1]; exact hce) hcv hcl T' rfl X'
  exact ⟨t2, st.trans a1, b1⟩
end CL
