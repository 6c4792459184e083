/-! Methods that catch: how many cells lie there behind them is not known. -/
def mx_QcN (G : mx_G) (b : Nat) (v : Option mx_V) (σ' : mx_S) : Array Value → State → Outcome → State → Prop := fun a st o t => ∃ n : Nat, sN σ' ≤ n ∧ mx_Qc G b v (mx_at_n σ' n) a st o t
/-- a contract at one start, the next address not told -/
def mx_MSN (Y : mx_M) (As : List mx_V) (σ : mx_S) (v : Option mx_V) (σ' : mx_S) : Prop := σ'.1 = σ.1 ∧ sK σ ≤ sK σ' ∧ sW σ ≤ sW σ' ∧ ∀ (l : Launch) (G : mx_G), l.stackTraces = false → Met l Y.1 (mx_wy Y) (mx_rm Y (sK σ' - sK σ) (sW σ' - sW σ)) (mx_pre G σ As) (mx_QcN G σ.1 v σ') (sK σ' - sK σ) (sW σ' - sW σ) (mx_A σ.1)
theorem mx_MSN_of {Y : mx_M} {As : List mx_V} {σ σ' : mx_S} {v : Option mx_V} (h : mx_MS Y As σ (.inl (v, σ'))) : mx_MSN Y As σ v σ' := by
  obtain ⟨hB, hk1, hw1, hM⟩ := h
  refine ⟨hB, hk1, hw1, fun l G hl => ?_⟩
  intro p e ha hc hk s m args below hf hap hp hK
  obtain ⟨t, o, h1, h2, h3, h4, L⟩ := hM l G hl p e ha hc hk s m args below hf hap hp hK
  exact ⟨t, o, h1, h2, h3, ⟨sN σ', Nat.le_refl _, h4⟩, L⟩
theorem mx_D_retN {G : mx_G} {p : Program} {l : Launch} {e : Env} {R : Room} {s : State} {m : MethodId} {args : Array Value} {below : List Frame} {meth : Method} {c : Code} {Y : mx_M} {σ σ' : mx_S} {v : Option mx_V} (C : mx_C l Y p R s m args meth c) (hr : meth.sig.returnType = Y.2.2.2.1) (hB : σ'.1 = σ.1) :
    mx_D G p l e R s m args below meth c Y (sK σ') (sW σ') (sK σ) (sW σ) σ.1 (fun r => ∃ n : Nat, sN σ' ≤ n ∧ r = .inl (v, mx_at_n σ' n)) (MQ below (mx_QcN G σ.1 v σ') args s (sK σ' - sK σ) (sW σ' - sW σ) (mx_A σ.1)) := by
  refine ⟨?_, ?_, ?_⟩
  rotate_left
  · intro pc E σ2 n H locs cells slots lr rest q ce h
    obtain ⟨n9, -, h⟩ := h
    exact absurd (show Sum.inr (E, σ2) = Sum.inl (v, mx_at_n σ' n9) from h) (by simp)
  · intro pc E σ2 H locs cells slots lr h
    obtain ⟨n9, -, h⟩ := h
    exact absurd (show Sum.inr (E, _) = Sum.inl (v, mx_at_n σ' n9) from h) (by simp)
  intro pc v2 σ2 H locs cells slots lr h hb2 P hv hrt
  obtain ⟨n9, hn9, h⟩ := h
  have h9 : Sum.inl (v2, σ2) = (Sum.inl (v, mx_at_n σ' n9) : mx_R) := h
  obtain ⟨h1, h2⟩ := Prod.mk.inj (Sum.inl.inj h9)
  subst h1
  subst h2
  have e1 : cells = sK σ' - sK σ := by have := P.2.2.2.1; simp only [sK] at this ⊢; omega
  have e2 : slots = sW σ' - sW σ := by have := P.2.2.2.2.1; simp only [sW] at this ⊢; omega
  subst e1
  subst e2
  have hS : va_S (mx_A σ'.1) s.heap H locs := P.2.2.1
  rw [hB] at hS
  have hq : ∀ (oc : Option Value), oc = v2.map mx_c → ∀ t : State, t.heap = H → s.WarmedH t.vm → mx_QcN G σ.1 v2 σ' args s (.returned oc) t := fun oc ho t ht hw => ⟨n9, hn9, by rw [ho], hv, by rw [ht]; exact P.2.1, hS.F ht⟩
  have hf : ∀ q ∈ locs, mx_A σ.1 q.base := hS.2.2
  have hlk := C.2.2.2.2.2.2.2.2.2.2
  cases v2 with
  | none =>
    obtain ⟨d, hr2⟩ := hrt
    exact W.vret C.1 C.2.1 (hr.trans hr2) (hq none rfl) hf d hlk
  | some x =>
    rcases x with x | o | x | x | x
    · obtain ⟨d, ty, hr2, hn⟩ := hrt
      exact W.zret C.1 C.2.1 (hr.trans hr2) hn (hq _ rfl) hf d hlk
    · obtain ⟨d, rt, hr2, hrt2⟩ := hrt
      refine W.aret C.1 C.2.1 (hr.trans hr2) hrt2 ?_ (hq _ rfl) hf d hlk
      cases o with
      | none => exact Or.inl rfl
      | some a => exact Or.inr ⟨a, rfl⟩
    · obtain ⟨d, hr2⟩ := hrt
      exact W.lret C.1 C.2.1 (hr.trans hr2) (hq _ rfl) hf d hlk
    · obtain ⟨d, hr2⟩ := hrt
      exact W.fret C.1 C.2.1 (hr.trans hr2) (hq _ rfl) hf d hlk
    · obtain ⟨d, hr2⟩ := hrt
      exact W.dret C.1 C.2.1 (hr.trans hr2) (hq _ rfl) hf d hlk
/-- a body with handlers that returns, perhaps behind a throw -/
theorem mx_retEN {Y : mx_M} {As : List mx_V} {σ σ' : mx_S} {v : Option mx_V} (hy : plainName Y.1.cls = true) (hh : Y.2.2.2.2.2.2 ≠ []) (hn : (mx_ea As).length ≤ Y.2.2.1) (hB : σ'.1 = σ.1) (hk : sK σ ≤ sK σ') (hw : sW σ ≤ sW σ')
    (J : ∀ (kb wb : Nat) (Q : mx_R → Prop), sK σ' ≤ kb → sW σ' ≤ wb → (∀ n : Nat, sN σ' ≤ n → Q (.inl (v, mx_at_n σ' n))) → mx_J Y kb wb 0 (mx_ent As Y.2.2.1) [] σ Q) : mx_MSN Y As σ v σ' := by
  have J := J (sK σ') (sW σ') (fun r => ∃ n : Nat, sN σ' ≤ n ∧ r = .inl (v, mx_at_n σ' n)) (Nat.le_refl _) (Nat.le_refl _) (fun n hn => ⟨n, hn, rfl⟩)
  refine ⟨hB, hk, hw, fun l G hl => ?_⟩
  refine mx_ofWH (cc := Y.2.1) (maxL := Y.2.2.1) (ret := Y.2.2.2.1) (hh := Y.2.2.2.2.2.2) hy (by rw [mx_wy, mx_cwH hh]) ?_
  intro p e s m args below meth c s₁ B hml hP
  obtain ⟨ha, hA, hW, hH⟩ := hP
  subst ha
  have ht : c.exceptionTable.toList = tableOf Y.2.2.2.2.2.2 := vx_table (x := Y.1) B (by rw [← mx_cwH hh]; exact atoms_spec (ws := mx_wy Y) B.pre _ List.mem_cons_self)
  have C := mx_start B hml hl ht
  rw [lg_entry_eq]
  exact J G p l e _ s m _ below meth c s.heap [] 0 0 (sK σ) (sW σ) _ _ C (by show sK σ' - sK σ + sK σ = sK σ'; omega) (by show sW σ' - sW σ + sW σ = sW σ'; omega) ⟨hW, hH, va_S.rf, Nat.zero_add _, Nat.zero_add _, hk, hw⟩ (mx_entry hn hA) (fun _ h => by cases h) (mx_D_retN C B.returns hB)
section CLN
variable {p : Program} {l : Launch} {e : Env} {R : Room} {s : State} {m : MethodId} {args : Array Value} {below : List Frame} {meth : Method} {c : Code} {H : Heap} {locs : List Loc} {cells slots : Nat} {Qs : State → Prop}
theorem mx_afterN {G : mx_G} {kb wb k0 w0 mc ms pc : Nat} {σ σ' : mx_S} {v : Option mx_V} {lr : Array Slot} {st0 rest : List Value} {a : Array Value} (hr : va_Run p l e R s m args below meth c H locs cells slots mc ms (F0 m pc lr st0) rest (mx_QcN G σ.1 v σ' a) (mx_A σ.1))
    (P : mx_P G s kb wb k0 w0 cells slots σ H locs) (hB : σ'.1 = σ.1) (hmc : sK σ + mc = sK σ') (hms : sW σ + ms = sW σ') (hkb : sK σ' ≤ kb) (hwb : sW σ' ≤ wb)
    (K : ∀ (n : Nat) (H1 : Heap) (locs1 : List Loc), sN σ' ≤ n → (∀ x, v = some x → mx_ok x) → mx_P G s kb wb k0 w0 (cells + mc) (slots + ms) (mx_at_n σ' n) H1 locs1 → W p l e R s m args below meth c H1 locs1 (cells + mc) (slots + ms) Qs (F0 m (pc + 3) lr ((v.map mx_c).toList ++ rest))) : W p l e R s m args below meth c H locs cells slots Qs (F0 m pc lr st0) := by
  intro T hT X
  obtain ⟨v0, st₀, t, T', L, h0, X', hL, e1, e2, ⟨n, hn, hv, hok, hH, hF⟩, st⟩ := hr T hT X
  cases hv
  obtain ⟨hz, hk⟩ := hF
  rw [h0] at hz hk
  obtain ⟨p1, p2, p3, p4, p5, p6, p7⟩ := P
  have hS : va_S (mx_A σ'.1) s.heap T'.heap (locs ++ L) := by
    rw [hB]
    refine ⟨Nat.le_trans p3.1 (by rw [e1]; exact hz), fun q h1 h2 => by rw [e1, hk q (Nat.lt_of_lt_of_le h1 p3.1) h2]; exact p3.2.1 q h1 h2, fun q hq => ?_⟩
    rcases List.mem_append.mp hq with h | h
    · exact p3.2.2 q h
    · exact hL q h
  obtain ⟨t2, a1, b1⟩ := K n T'.heap (locs ++ L) hn hok ⟨by show mx_W G σ'.1 s s.heap; rw [hB]; exact p1, by rw [e1]; exact hH, hS, by show cells + mc + k0 = sK σ'; omega, by show slots + ms + w0 = sW σ'; omega, hkb, hwb⟩ T' rfl X'
  exact ⟨t2, st t2 a1, b1⟩
end CLN
theorem mj_callSWN {Y Y' : mx_M} {kb wb pc idx : Nat} {ls : List (Option mx_V)} {As rest : List mx_V} {σ σ' : mx_S} {Q : mx_R → Prop} {n : Nat} {v : Option mx_V} (hd : decode Y.2.1 pc = .ok (.invokestatic idx, 3)) (hs : mx_kSW Y Y' idx n) (hn : As.length = n) (hz : mx_sz rest ≤ 8) (hM : mx_MSN Y' As σ v σ') (hkb : sK σ' ≤ kb) (hwb : sW σ' ≤ wb)
    (K : ∀ i : Nat, sN σ' ≤ i → mx_J Y kb wb (pc + 3) ls (v.toList ++ rest) (mx_at_n σ' i) Q) : mx_J Y kb wb pc ls (As.reverse ++ rest) σ Q := by
  intro G p l e R s m args below meth c H locs cells slots k0 w0 Qs lr C hk hw P hl ho D
  have hA : ∀ w ∈ As, mx_ok w := fun w hw9 => ho w (List.mem_append_left _ (List.mem_reverse.mpr hw9))
  have hR : ∀ w ∈ rest, w ∈ As.reverse ++ rest := fun w hw9 => by simp [hw9]
  obtain ⟨hB, hK1, hW1, hM⟩ := hM
  have hM := hM l G C.2.2.2.2.2.2.2.2.1
  have hcl := P.2.2.2.1
  have hsl := P.2.2.2.2.1
  try dsimp only at hB hK1 hW1 hkb hwb
  refine mx_afterN (G := G) (σ := σ) (σ' := σ') (v := v) (kb := kb) (wb := wb) (k0 := k0) (w0 := w0) (vx_runSW (As := As.map mx_c) (rest := rest.map mx_c) (mx_fix C) hM ⟨⟨rfl, rfl, by rw [C.2.2.2.2.2.2.1]; exact hs.1.2.2.2.2.1, by rw [C.2.2.2.2.2.2.2.1]; exact hs.1.2.2.2.2.2, mx_wy_ok hs.1.1 C.2.2.2.2.1, by rw [← mx_cwH hs.2.1]; exact List.mem_cons_self⟩, by rw [← mx_cwH hs.2.1]; exact C.2.2.2.2.1 _ hs.1.1, C.2.2.2.2.1 _ hs.1.2.1, hs.1.2.2.1, mx_psig hs.1.2.2.2.1, C.2.2.2.2.1 _ hs.2.2.1, C.2.2.2.2.1 _ hs.2.2.2⟩ ⟨mx_pre_blind _ _ _, mx_pre_at P As hA⟩ rfl (by simpa using hn) (by rw [hl.2.1]) (by rw [List.map_append, List.map_reverse]) (by rw [List.map_map]; exact (show 2 * 0 + _ ≤ 8 by rw [Nat.mul_zero, Nat.zero_add]; exact hz)) hd ⟨by omega, by omega⟩) P hB (by omega) (by omega) hkb hwb (fun i H1 locs1 hi hv P1 => ?_)
  have hD : mx_D G p l e R s m args below meth c Y kb wb k0 w0 σ'.1 Q Qs := by rw [hB]; exact D
  have k := K i hi G p l e R s m args below meth c H1 locs1 _ _ k0 w0 Qs lr C hk hw P1 hl (fun w hw9 => ?_) hD
  · rw [List.map_append, show v.toList.map mx_c = (v.map mx_c).toList by cases v <;> rfl] at k
    exact k
  · rcases List.mem_append.mp hw9 with q | q
    · cases v with
      | none => simp at q
      | some x => simp at q; subst q; exact hv _ rfl
    · exact ho w (hR w q)
