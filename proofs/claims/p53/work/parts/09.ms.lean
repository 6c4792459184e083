/-! A method's contract out of its walk. -/
def mx_sp (v : mx_V) : List (Option mx_V) := if mx_2 (some v) then [some v, none] else [some v]
def mx_ea (As : List mx_V) : List (Option mx_V) := As.flatMap mx_sp
def mx_ent (As : List mx_V) (n : Nat) : List (Option mx_V) := mx_ea As ++ List.replicate (n - (mx_ea As).length) none
theorem mx_en_app : ∀ (a : List (Option mx_V)) (i k : Nat), mx_en i (a ++ List.replicate k none) = mx_en i a
  | [], i, 0 => rfl
  | [], i, k + 1 => by
    have := mx_en_app [] (i + 1) k
    simpa [List.replicate_succ, mx_en] using this
  | none :: t, i, k => by
    have := mx_en_app t (i + 1) k
    simpa [mx_en] using this
  | some v :: t, i, k => by
    have := mx_en_app t (i + 1) k
    simpa [mx_en] using this
theorem mx_en_ea : ∀ (As : List mx_V) (i : Nat), mx_en i (mx_ea As) = lv_args i (As.map mx_c)
  | [], i => rfl
  | v :: t, i => by
    by_cases h : mx_2 (some v) = true
    · have := mx_en_ea t (i + 2)
      rw [show mx_ea (v :: t) = some v :: none :: mx_ea t by simp [mx_ea, mx_sp, h]]
      simp only [mx_en, List.map_cons, lv_args]
      rw [if_pos (mx_cat2 h), this]
    · have h' : mx_2 (some v) = false := by simpa using h
      have := mx_en_ea t (i + 1)
      rw [show mx_ea (v :: t) = some v :: mx_ea t by simp [mx_ea, mx_sp, h']]
      simp only [mx_en, List.map_cons, lv_args]
      rw [if_neg (by rw [mx_cat1 h']; decide), this]
theorem mx_ea_len : ∀ (As : List mx_V), (mx_ea As).length = (lg_sl (As.map mx_c)).length
  | [] => rfl
  | v :: t => by
    have h9 := mx_ea_len t
    by_cases h : mx_2 (some v) = true
    · rw [show mx_ea (v :: t) = some v :: none :: mx_ea t by simp [mx_ea, mx_sp, h]]
      simp [lg_sl, mx_cat2 h] at h9 ⊢
      omega
    · have h' : mx_2 (some v) = false := by simpa using h
      rw [show mx_ea (v :: t) = some v :: mx_ea t by simp [mx_ea, mx_sp, h']]
      simp [lg_sl, mx_cat1 h'] at h9 ⊢
      omega
theorem mx_sp_in {As : List mx_V} {v : mx_V} (h : some v ∈ mx_ea As) : v ∈ As := by
  obtain ⟨w, hw, h⟩ := List.mem_flatMap.mp h
  unfold mx_sp at h
  split at h
  · simp at h; rw [h]; exact hw
  · simp at h; rw [h]; exact hw
theorem mx_entry {As : List mx_V} {n : Nat} (hn : (mx_ea As).length ≤ n) (ho : ∀ v ∈ As, mx_ok v) : mx_l n (mx_ent As n) ((lg_sl (As.map mx_c) ++ List.replicate (n - (lg_sl (As.map mx_c)).length) Slot.unset).toArray) := by
  have h := lv_entry (As.map mx_c) (n := n) (by rw [← mx_ea_len]; exact hn)
  refine ⟨by simp [mx_ent]; omega, h.1, h.2.1, fun k v hk => ⟨?_, ?_⟩⟩
  · have := mx_en_of (mx_ent As n) 0 k v hk
    rw [mx_ent, mx_en_app, mx_en_ea] at this
    simpa using h.2.2 _ this
  · have hm := List.mem_of_getElem? hk
    rcases List.mem_append.mp hm with q | q
    · exact ho v (mx_sp_in q)
    · simp at q
theorem mx_start {l : Launch} {Y : mx_M} {p : Program} {e : Env} {s s₁ : State} {m : MethodId} {args : Array Value} {below : List Frame} {meth : Method} {c : Code} {mc ms : Nat} (B : BodyLoose p l Y.1 (headSpec (mx_wy Y) (mx_rm Y mc ms)) Y.2.1 Y.2.2.1 Y.2.2.2.1 e s m args below meth c s₁) (hml : c.maxLocals = Y.2.2.1) (hl : l.stackTraces = false) (ht : c.exceptionTable.toList = tableOf Y.2.2.2.2.2.2) :
    mx_C l Y p (headSpec (mx_wy Y) (mx_rm Y mc ms)).room s m args meth c := by
  have hts := atoms_spec (ws := mx_wy Y) B.pre
  exact ⟨B.exec, B.bytes, hml, findClass_of_methodNamed B.named, fun w h => hts w (List.mem_cons_of_mem _ h), (name_of_methodNamed B.named B.method).1, rfl, rfl, hl, ht, B.notSynchronized⟩
/-- the ends of a body that returns v, σ' -/
theorem mx_D_ret {G : mx_G} {p : Program} {l : Launch} {e : Env} {R : Room} {s : State} {m : MethodId} {args : Array Value} {below : List Frame} {meth : Method} {c : Code} {Y : mx_M} {σ σ' : mx_S} {v : Option mx_V} (C : mx_C l Y p R s m args meth c) (hr : meth.sig.returnType = Y.2.2.2.1) (hB : σ'.1 = σ.1) :
    mx_D G p l e R s m args below meth c Y (sK σ') (sW σ') (sK σ) (sW σ) σ.1 (fun r => r = .inl (v, σ')) (MQ below (mx_Qc G σ.1 v σ') args s (sK σ' - sK σ) (sW σ' - sW σ) (mx_A σ.1)) := by
  refine ⟨?_, ?_, ?_⟩
  rotate_left
  · intro pc E σ2 n H locs cells slots lr rest q ce h
    exact absurd (show Sum.inr (E, σ2) = Sum.inl (v, σ') from h) (by simp)
  · intro pc E σ2 H locs cells slots lr h
    exact absurd (show Sum.inr (E, _) = Sum.inl (v, σ') from h) (by simp)
  intro pc v2 σ2 H locs cells slots lr h hb2 P hv hrt
  have h9 : Sum.inl (v2, σ2) = (Sum.inl (v, σ') : mx_R) := h
  obtain ⟨h1, h2⟩ := Prod.mk.inj (Sum.inl.inj h9)
  subst h1
  subst h2
  have e1 : cells = sK σ2 - sK σ := by have := P.2.2.2.1; omega
  have e2 : slots = sW σ2 - sW σ := by have := P.2.2.2.2.1; omega
  subst e1
  subst e2
  have hq : ∀ (oc : Option Value), oc = v2.map mx_c → ∀ t : State, t.heap = H → s.WarmedH t.vm → mx_Qc G σ.1 v2 σ2 args s (.returned oc) t := fun oc ho t ht hw => ⟨by rw [ho], hv, by rw [ht]; exact P.2.1, by have := P.2.2.1; rw [hB] at this; exact this.F ht⟩
  have hf : ∀ q ∈ locs, mx_A σ.1 q.base := by have := P.2.2.1.2.2; rw [hB] at this; exact this
  have hlk := C.2.2.2.2.2.2.2.2.2.2
  cases v2 with
  | none =>
    obtain ⟨d, hr2⟩ := hrt
    exact W.vret C.1 C.2.1 (hr.trans hr2) (hq none rfl) hf d hlk
  | some x =>
    rcases x with x | o | x | x | x
    · obtain ⟨d, ty, hr2, hn⟩ := hrt
      exact W.zret C.1 C.2.1 (hr.trans hr2) hn (hq _ rfl) hf d hlk
    · obtain ⟨d, rt, hr2, hrt2⟩ := hrt
      refine W.aret C.1 C.2.1 (hr.trans hr2) hrt2 ?_ (hq _ rfl) hf d hlk
      cases o with
      | none => exact Or.inl rfl
      | some a => exact Or.inr ⟨a, rfl⟩
    · obtain ⟨d, hr2⟩ := hrt
      exact W.lret C.1 C.2.1 (hr.trans hr2) (hq _ rfl) hf d hlk
    · obtain ⟨d, hr2⟩ := hrt
      exact W.fret C.1 C.2.1 (hr.trans hr2) (hq _ rfl) hf d hlk
    · obtain ⟨d, hr2⟩ := hrt
      exact W.dret C.1 C.2.1 (hr.trans hr2) (hq _ rfl) hf d hlk
/-- a body without handlers that returns -/
theorem mx_ret {Y : mx_M} {As : List mx_V} {σ σ' : mx_S} {v : Option mx_V} (hy : plainName Y.1.cls = true) (hh : Y.2.2.2.2.2.2 = []) (hn : (mx_ea As).length ≤ Y.2.2.1) (hB : σ'.1 = σ.1) (hk : sK σ ≤ sK σ') (hw : sW σ ≤ sW σ')
    (J : mx_J Y (sK σ') (sW σ') 0 (mx_ent As Y.2.2.1) [] σ (fun r => r = .inl (v, σ'))) : mx_MS Y As σ (.inl (v, σ')) := by
  refine ⟨hB, hk, hw, fun l G hl => ?_⟩
  refine Met.ofW (cc := Y.2.1) (maxL := Y.2.2.1) (ret := Y.2.2.2.1) hy (by rw [mx_wy, mx_cw0 hh]) ?_
  intro p e s m args below meth c s₁ B hml hP
  obtain ⟨ha, hA, hW, hH⟩ := hP
  subst ha
  have ht : c.exceptionTable.toList = tableOf Y.2.2.2.2.2.2 := by
    rw [hh]
    obtain ⟨meth9, c9, h1, h2, -, -, -, -, h7, -⟩ := Cond.code_spec B.named (by rw [← mx_cw0 hh]; exact atoms_spec (ws := mx_wy Y) B.pre _ List.mem_cons_self)
    cases Option.some.inj (h1.symm.trans B.method)
    cases Option.some.inj (h2.symm.trans (Stand.of_body B).code)
    rw [Array.isEmpty_iff.mp h7]
    rfl
  have C := mx_start B hml hl ht
  rw [lg_entry_eq]
  exact J G p l e _ s m _ below meth c s.heap [] 0 0 (sK σ) (sW σ) _ _ C (by show sK σ' - sK σ + sK σ = sK σ'; omega) (by show sW σ' - sW σ + sW σ = sW σ'; omega) ⟨hW, hH, va_S.rf, Nat.zero_add _, Nat.zero_add _, hk, hw⟩ (mx_entry hn hA) (fun _ h => by cases h) (mx_D_ret C B.returns hB)
/-- a body with handlers that returns -/
theorem mx_retH {Y : mx_M} {As : List mx_V} {σ σ' : mx_S} {v : Option mx_V} (hy : plainName Y.1.cls = true) (hh : Y.2.2.2.2.2.2 ≠ []) (hn : (mx_ea As).length ≤ Y.2.2.1) (hB : σ'.1 = σ.1) (hk : sK σ ≤ sK σ') (hw : sW σ ≤ sW σ')
    (J : mx_J Y (sK σ') (sW σ') 0 (mx_ent As Y.2.2.1) [] σ (fun r => r = .inl (v, σ'))) : mx_MS Y As σ (.inl (v, σ')) := by
  refine ⟨hB, hk, hw, fun l G hl => ?_⟩
  refine mx_ofWH (cc := Y.2.1) (maxL := Y.2.2.1) (ret := Y.2.2.2.1) (hh := Y.2.2.2.2.2.2) hy (by rw [mx_wy, mx_cwH hh]) ?_
  intro p e s m args below meth c s₁ B hml hP
  obtain ⟨ha, hA, hW, hH⟩ := hP
  subst ha
  have ht : c.exceptionTable.toList = tableOf Y.2.2.2.2.2.2 := vx_table (x := Y.1) B (by rw [← mx_cwH hh]; exact atoms_spec (ws := mx_wy Y) B.pre _ List.mem_cons_self)
  have C := mx_start B hml hl ht
  rw [lg_entry_eq]
  exact J G p l e _ s m _ below meth c s.heap [] 0 0 (sK σ) (sW σ) _ _ C (by show sK σ' - sK σ + sK σ = sK σ'; omega) (by show sW σ' - sW σ + sW σ = sW σ'; omega) ⟨hW, hH, va_S.rf, Nat.zero_add _, Nat.zero_add _, hk, hw⟩ (mx_entry hn hA) (fun _ h => by cases h) (mx_D_ret C B.returns hB)
/-- the ends of a body that throws -/
theorem mx_D_thr {G : mx_G} {p : Program} {l : Launch} {e : Env} {R : Room} {s : State} {m : MethodId} {args : Array Value} {below : List Frame} {meth : Method} {c : Code} {Y : mx_M} {σ σ' : mx_S} {E : String} (C : mx_C l Y p R s m args meth c) (hh : Y.2.2.2.2.2.2 = []) (hB : σ'.1 = σ.1) (hRc : R.cells + sK σ = sK σ') (hRs : R.slots + sW σ = sW σ') :
    mx_D G p l e R s m args below meth c Y (sK σ') (sW σ') (sK σ) (sW σ) σ.1 (fun r => r = .inr (E, σ')) (vx_MQ below (fun _ _ _ _ => False) (mx_XC G σ.1 E σ') args s (sK σ' - sK σ) (sW σ' - sW σ) (mx_A σ.1)) := by
  have ht : ∀ x ∈ c.exceptionTable.toList, False := by
    rw [C.2.2.2.2.2.2.2.2.2.1, hh]
    intro x hx
    cases hx
  have hlk := C.2.2.2.2.2.2.2.2.2.2
  refine ⟨?_, ?_, ?_⟩
  · intro pc v2 σ2 H locs cells slots lr h
    exact absurd (show Sum.inl (v2, σ2) = Sum.inr (E, σ') from h) (by simp)
  · intro pc E2 σ2 n H locs cells slots lr rest q ce h hb2 hn P hce hcv hcl hps
    have h9 : Sum.inr (E2, σ2) = (Sum.inr (E, σ') : mx_R) := h
    obtain ⟨h1, h2⟩ := Prod.mk.inj (Sum.inr.inj h9)
    subst h1
    subst h2
    have hS := P.2.2.1
    change va_S (mx_A σ2.1) _ _ _ at hS
    rw [hB] at hS
    have e1 := P.2.2.2.1
    have e2 := P.2.2.2.2.1
    change cells + sK σ = sK σ2 at e1
    change slots + sW σ = sW σ2 at e2
    exact vx_out (fun x hx => (ht x hx).elim) hlk hce hcv hcl (fun t hh2 _ => ⟨rfl, ⟨n, hn, by rw [hh2]; exact P.2.1⟩, hS.F hh2⟩) hS.2.2 (by omega) (by omega)
  · intro pc E2 σ2 H locs cells slots lr h hb2 hk1 hw1 P hls htn
    have h9 : Sum.inr (E2, (σ2.1, σ2.2.1, σ2.2.2.1, sK σ2 + 1, sW σ2 + 6)) = (Sum.inr (E, σ') : mx_R) := h
    obtain ⟨h1, h2⟩ := Prod.mk.inj (Sum.inr.inj h9)
    subst h1
    subst h2
    obtain ⟨ik, is, ic, i, ix, rx, text, names, ⟨x0, x1, x2, x5⟩, d0, d3, d4, hstr, hfit, hfn, w1, w2, w3, h9, hR1, hR2⟩ := htn
    have hts := C.2.2.2.2.1
    have hS := P.2.2.1
    rw [hb2] at hS
    have e1 := P.2.2.2.1
    have e2 := P.2.2.2.2.1
    have hat : ∀ w ∈ mx_atX Y.1.cls ic E2 ix rx names, w.before args s = true := fun w hw9 => by
      rcases w3 w hw9 with q | q
      · exact hts w q
      · exact va_Nw.use (mx_bad_ot (List.mem_filter.mp q).2) (P.1.2.2.2.2.2.2.1 w q)
    have hgood : ∀ w ∈ Cond.classLink Y.1.cls ik E2 :: Cond.initialized E2 :: mx_atX Y.1.cls ic E2 ix rx names, vx_ot w = true := by
      intro w hw9
      simp only [vx_ot, Bool.or_eq_true]
      rcases List.mem_cons.mp hw9 with q | q
      · subst q; exact Or.inl rfl
      · rcases List.mem_cons.mp q with q | q
        · subst q; exact Or.inl rfl
        · rcases w3 w q with q | q
          · exact Or.inr (List.mem_filter.mp q).2
          · exact Or.inl (mx_bad_ot (List.mem_filter.mp q).2)
    have hsa := P.1.2.2.2.2.2.1 i _ hstr
    have hU := P.1.2.2.2.1
    have hN := P.1.2.2.2.2.1
    rw [hb2] at hU hN
    have hx : ∀ t : State, s.vm.Alike t.vm → H.size ≤ t.heap.size → (∀ q : Nat, q < H.size → t.heap[q]? = H[q]?) → mx_XC G σ.1 E2 (σ2.1, σ2.2.1, σ2.2.2.1, sK σ2 + 1, sW σ2 + 6) E2 s t := by
      intro t hA9 hz hq
      refine ⟨rfl, ⟨t.heap.size, by show σ2.2.2.1 ≤ _; rw [← P.2.1.2.1]; exact hz, Nat.le_trans P.2.1.1 hz, rfl, fun a e9 ha9 => ?_⟩, Nat.le_trans hS.1 hz, fun q h1 h2 => (hq q (Nat.lt_of_lt_of_le h1 hS.1)).trans (hS.2.1 q h1 h2)⟩
      have h2 := P.2.1.2.2 a e9 ha9
      exact mx_H_k h2 (hq a (mx_H_lt h2))
    have hR1' : names.length + 3 < R.frames := by rw [C.2.2.2.2.2.2.1]; exact hR1
    have hR2' : (([] : List Value).map fun v => v.category).sum + (13 * (names.length + 1) + 43) ≤ R.locals := by rw [C.2.2.2.2.2.2.2.1]; simpa using hR2
    change R.cells + sK σ = sK σ2 + 1 at hRc
    change R.slots + sW σ = sW σ2 + 6 at hRs
    rcases d4 with ⟨d4, d6, d9⟩ | ⟨d4, d6, d9⟩
    · exact mx_throwS C.1 C.2.1 C.2.2.2.2.2.2.2.2.1 x0 x1 x2 x5 C.2.2.2.1 hfit hfn (hts _ w1) (hts _ w2) hsa hat hgood hU hN hS hls d0 d3 d4 d6 d9 (fun x hx9 => (ht x hx9).elim) hR1' hR2' (by omega) (by omega) hlk hx hS.2.2 (by show cells + 1 ≤ sK σ2 + 1 - sK σ; omega) (by show slots + 6 ≤ sW σ2 + 6 - sW σ; omega)
    · exact mx_throwSW C.1 C.2.1 C.2.2.2.2.2.2.2.2.1 x0 x1 x2 x5 C.2.2.2.1 hfit hfn (hts _ w1) (hts _ w2) hsa hat hgood hU hN hS hls d0 d3 d4 d6 d9 (fun x hx9 => (ht x hx9).elim) hR1' hR2' (by omega) (by omega) hlk hx hS.2.2 (by show cells + 1 ≤ sK σ2 + 1 - sK σ; omega) (by show slots + 6 ≤ sW σ2 + 6 - sW σ; omega)
/-- a body that throws -/
theorem mx_thr {Y : mx_M} {As : List mx_V} {σ σ' : mx_S} {E : String} (hy : plainName Y.1.cls = true) (hh : Y.2.2.2.2.2.2 = []) (hn : (mx_ea As).length ≤ Y.2.2.1) (hB : σ'.1 = σ.1) (hk : sK σ ≤ sK σ') (hw : sW σ ≤ sW σ')
    (J : mx_J Y (sK σ') (sW σ') 0 (mx_ent As Y.2.2.1) [] σ (fun r => r = .inr (E, σ'))) : mx_MS Y As σ (.inr (E, σ')) := by
  refine ⟨hB, hk, hw, hh, fun l G hl => ?_⟩
  refine vx_ofW (cc := Y.2.1) (maxL := Y.2.2.1) (ret := Y.2.2.2.1) hy (by rw [mx_wy, mx_cw0 hh]) ?_
  intro p e s m args below meth c s₁ B hml htab hP
  obtain ⟨ha, hA, hW, hH⟩ := hP
  subst ha
  have ht : c.exceptionTable.toList = tableOf Y.2.2.2.2.2.2 := by
    rw [hh]
    cases h9 : c.exceptionTable.toList with
    | nil => rfl
    | cons x xs => exact (htab x (by rw [h9]; exact List.mem_cons_self)).elim
  have C := mx_start B hml hl ht
  rw [lg_entry_eq]
  exact J G p l e _ s m _ below meth c s.heap [] 0 0 (sK σ) (sW σ) _ _ C (by show sK σ' - sK σ + sK σ = sK σ'; omega) (by show sW σ' - sW σ + sW σ = sW σ'; omega) ⟨hW, hH, va_S.rf, Nat.zero_add _, Nat.zero_add _, hk, hw⟩ (mx_entry hn hA) (fun _ h => by cases h) (mx_D_thr C hh hB (by show sK σ' - sK σ + sK σ = sK σ'; omega) (by show sW σ' - sW σ + sW σ = sW σ'; omega))
