theorem mj_callV {Y Y' : mx_M} {kb wb pc idx : Nat} {ls : List (Option mx_V)} {As rest : List mx_V} {σ σ' : mx_S} {Q : mx_R → Prop} {b : Nat} {ci : Nat} {fs : List mx_V} {n : Nat} {v : Option mx_V} (hd : decode Y.2.1 pc = .ok (.invokevirtual idx, 3)) (hs : mx_kV Y Y' idx n) (hn : As.length = n) (hb : sH σ b = some (.inl (ci, fs))) (hci : (vwCl[ci]?).map (fun q => q.1) = some Y'.1.cls) (hz : mx_sz rest ≤ 8) (hM : mx_MS Y' (mR b :: As) σ (.inl (v, σ'))) (hkb : sK σ' ≤ kb) (hwb : sW σ' ≤ wb)
    (K : mx_J Y kb wb (pc + 3) ls (v.toList ++ rest) σ' Q) : mx_J Y kb wb pc ls (As.reverse ++ mR b :: rest) σ Q := by
  intro G p l e R s m args below meth c H locs cells slots k0 w0 Qs lr C hk hw P hl ho D
  have hA : ∀ w ∈ As, mx_ok w := fun w hw9 => ho w (List.mem_append_left _ (List.mem_reverse.mpr hw9))
  have hR : ∀ w ∈ rest, w ∈ As.reverse ++ mR b :: rest := fun w hw9 => by simp [hw9]
  obtain ⟨hB, hK1, hW1, hM⟩ := hM
  have hM := hM l G C.2.2.2.2.2.2.2.2.1
  have hcl := P.2.2.2.1
  have hsl := P.2.2.2.2.1
  dsimp only at hB hK1 hW1 hkb hwb
  refine mx_after (G := G) (σ := σ) (σ' := σ') (v := v) (kb := kb) (wb := wb) (k0 := k0) (w0 := w0) (va_runV (As := As.map mx_c) (rest := rest.map mx_c) (b := b) (mx_fix C) hM ⟨mx_CB C hs.1 hs.2.1 (C.2.2.2.2.1 _ hs.2.2.1), C.2.2.2.2.1 _ hs.2.2.2.1, C.2.2.2.2.1 _ hs.2.2.2.2⟩ ⟨mx_pre_blind _ _ _, mx_recv P hb hci, mx_pre_at P (mR b :: As) (mx_cons trivial hA)⟩ rfl (by simpa using hn) (by rw [hl.2.1]) (by rw [List.map_append, List.map_cons, List.map_reverse]; rfl) (by rw [List.map_map]; exact (show 2 * 0 + _ ≤ 8 by rw [Nat.mul_zero, Nat.zero_add]; exact hz)) hd ⟨by dsimp only; omega, by dsimp only; omega⟩) P hB (by dsimp only; omega) (by dsimp only; omega) hkb hwb (fun H1 locs1 hv P1 => ?_)
  have hD : mx_D G p l e R s m args below meth c Y kb wb k0 w0 σ'.1 Q Qs := by rw [hB]; exact D
  have k := K G p l e R s m args below meth c H1 locs1 _ _ k0 w0 Qs lr C hk hw P1 hl (fun w hw9 => ?_) hD
  · rw [List.map_append, show v.toList.map mx_c = (v.map mx_c).toList by cases v <;> rfl] at k
    exact k
  · rcases List.mem_append.mp hw9 with q | q
    · cases v with
      | none => simp at q
      | some x => simp at q; subst q; exact hv _ rfl
    · exact ho w (hR w q)

theorem mj_callS {Y Y' : mx_M} {kb wb pc idx : Nat} {ls : List (Option mx_V)} {As rest : List mx_V} {σ σ' : mx_S} {Q : mx_R → Prop} {n : Nat} {v : Option mx_V} (hd : decode Y.2.1 pc = .ok (.invokestatic idx, 3)) (hs : mx_kS Y Y' idx n) (hn : As.length = n) (hz : mx_sz rest ≤ 8) (hM : mx_MS Y' (As) σ (.inl (v, σ'))) (hkb : sK σ' ≤ kb) (hwb : sW σ' ≤ wb)
    (K : mx_J Y kb wb (pc + 3) ls (v.toList ++ rest) σ' Q) : mx_J Y kb wb pc ls (As.reverse ++ rest) σ Q := by
  intro G p l e R s m args below meth c H locs cells slots k0 w0 Qs lr C hk hw P hl ho D
  have hA : ∀ w ∈ As, mx_ok w := fun w hw9 => ho w (List.mem_append_left _ (List.mem_reverse.mpr hw9))
  have hR : ∀ w ∈ rest, w ∈ As.reverse ++ rest := fun w hw9 => by simp [hw9]
  obtain ⟨hB, hK1, hW1, hM⟩ := hM
  have hM := hM l G C.2.2.2.2.2.2.2.2.1
  have hcl := P.2.2.2.1
  have hsl := P.2.2.2.2.1
  dsimp only at hB hK1 hW1 hkb hwb
  refine mx_after (G := G) (σ := σ) (σ' := σ') (v := v) (kb := kb) (wb := wb) (k0 := k0) (w0 := w0) (va_runS (As := As.map mx_c) (rest := rest.map mx_c) (mx_fix C) hM ⟨mx_CB C hs.1 hs.2.1 (C.2.2.2.2.1 _ hs.2.2.1), C.2.2.2.2.1 _ hs.2.2.2⟩ ⟨mx_pre_blind _ _ _, mx_pre_at P As hA⟩ rfl (by simpa using hn) (by rw [hl.2.1]) (by rw [List.map_append, List.map_reverse]) (by rw [List.map_map]; exact (show 2 * 0 + _ ≤ 8 by rw [Nat.mul_zero, Nat.zero_add]; exact hz)) hd ⟨by dsimp only; omega, by dsimp only; omega⟩) P hB (by dsimp only; omega) (by dsimp only; omega) hkb hwb (fun H1 locs1 hv P1 => ?_)
  have hD : mx_D G p l e R s m args below meth c Y kb wb k0 w0 σ'.1 Q Qs := by rw [hB]; exact D
  have k := K G p l e R s m args below meth c H1 locs1 _ _ k0 w0 Qs lr C hk hw P1 hl (fun w hw9 => ?_) hD
  · rw [List.map_append, show v.toList.map mx_c = (v.map mx_c).toList by cases v <;> rfl] at k
    exact k
  · rcases List.mem_append.mp hw9 with q | q
    · cases v with
      | none => simp at q
      | some x => simp at q; subst q; exact hv _ rfl
    · exact ho w (hR w q)

theorem mj_callI {Y Y' : mx_M} {kb wb pc idx : Nat} {ls : List (Option mx_V)} {As rest : List mx_V} {σ σ' : mx_S} {Q : mx_R → Prop} {b : Nat} {n : Nat} {v : Option mx_V} (hd : decode Y.2.1 pc = .ok (.invokespecial idx, 3)) (hs : mx_kI Y Y' idx n) (hn : As.length = n) (hz : mx_sz rest ≤ 8) (hM : mx_MS Y' (mR b :: As) σ (.inl (v, σ'))) (hkb : sK σ' ≤ kb) (hwb : sW σ' ≤ wb)
    (K : mx_J Y kb wb (pc + 3) ls (v.toList ++ rest) σ' Q) : mx_J Y kb wb pc ls (As.reverse ++ mR b :: rest) σ Q := by
  intro G p l e R s m args below meth c H locs cells slots k0 w0 Qs lr C hk hw P hl ho D
  have hA : ∀ w ∈ As, mx_ok w := fun w hw9 => ho w (List.mem_append_left _ (List.mem_reverse.mpr hw9))
  have hR : ∀ w ∈ rest, w ∈ As.reverse ++ mR b :: rest := fun w hw9 => by simp [hw9]
  obtain ⟨hB, hK1, hW1, hM⟩ := hM
  have hM := hM l G C.2.2.2.2.2.2.2.2.1
  have hcl := P.2.2.2.1
  have hsl := P.2.2.2.2.1
  dsimp only at hB hK1 hW1 hkb hwb
  refine mx_after (G := G) (σ := σ) (σ' := σ') (v := v) (kb := kb) (wb := wb) (k0 := k0) (w0 := w0) (va_runI (As := As.map mx_c) (rest := rest.map mx_c) (b := b) (mx_fix C) hM ⟨by have h9 := mx_CB (mc := sK σ' - sK σ) (ms := sW σ' - sW σ) C hs.1 hs.2.1 (C.2.2.2.2.1 _ hs.2.2.1); rw [hs.2.2.2.2.2] at h9; exact h9, hs.2.2.2.2.1, C.2.2.2.2.1 _ hs.2.2.2.1⟩ ⟨mx_pre_blind _ _ _, mx_pre_at P (mR b :: As) (mx_cons trivial hA)⟩ rfl (by simpa using hn) (by rw [hl.2.1]) (by rw [List.map_append, List.map_cons, List.map_reverse]; rfl) (by rw [List.map_map]; exact (show 2 * 0 + _ ≤ 8 by rw [Nat.mul_zero, Nat.zero_add]; exact hz)) hd ⟨by dsimp only; omega, by dsimp only; omega⟩) P hB (by dsimp only; omega) (by dsimp only; omega) hkb hwb (fun H1 locs1 hv P1 => ?_)
  have hD : mx_D G p l e R s m args below meth c Y kb wb k0 w0 σ'.1 Q Qs := by rw [hB]; exact D
  have k := K G p l e R s m args below meth c H1 locs1 _ _ k0 w0 Qs lr C hk hw P1 hl (fun w hw9 => ?_) hD
  · rw [List.map_append, show v.toList.map mx_c = (v.map mx_c).toList by cases v <;> rfl] at k
    exact k
  · rcases List.mem_append.mp hw9 with q | q
    · cases v with
      | none => simp at q
      | some x => simp at q; subst q; exact hv _ rfl
    · exact ho w (hR w q)

theorem mj_callSN {Y Y' : mx_M} {kb wb pc idx : Nat} {ls : List (Option mx_V)} {As rest : List mx_V} {σ σ' : mx_S} {Q : mx_R → Prop} {n : Nat} {v : Option mx_V} (hd : decode Y.2.1 pc = .ok (.invokestatic idx, 3)) (hs : mx_kSN Y Y' idx n) (hn : As.length = n) (hz : mx_sz rest ≤ 8) (hM : mx_MS Y' (As) σ (.inl (v, σ'))) (hkb : sK σ' ≤ kb) (hwb : sW σ' ≤ wb)
    (K : mx_J Y kb wb (pc + 3) ls (v.toList ++ rest) σ' Q) : mx_J Y kb wb pc ls (As.reverse ++ rest) σ Q := by
  intro G p l e R s m args below meth c H locs cells slots k0 w0 Qs lr C hk hw P hl ho D
  have hA : ∀ w ∈ As, mx_ok w := fun w hw9 => ho w (List.mem_append_left _ (List.mem_reverse.mpr hw9))
  have hR : ∀ w ∈ rest, w ∈ As.reverse ++ rest := fun w hw9 => by simp [hw9]
  obtain ⟨host, hho⟩ := hs.2.2.1
  obtain ⟨hB, hK1, hW1, hM⟩ := hM
  have hM := hM l G C.2.2.2.2.2.2.2.2.1
  have hcl := P.2.2.2.1
  have hsl := P.2.2.2.2.1
  dsimp only at hB hK1 hW1 hkb hwb
  refine mx_after (G := G) (σ := σ) (σ' := σ') (v := v) (kb := kb) (wb := wb) (k0 := k0) (w0 := w0) (va_runSN (As := As.map mx_c) (rest := rest.map mx_c) (host := host) (mx_fix C) hM ⟨mx_CN C hs.1 hs.2.1 (P.1.2.2.2.2.2.2.1 _ hho), C.2.2.2.2.1 _ hs.2.2.2, trivial⟩ ⟨mx_pre_blind _ _ _, mx_pre_at P As hA⟩ rfl (by simpa using hn) (by rw [hl.2.1]) (by rw [List.map_append, List.map_reverse]) (by rw [List.map_map]; exact (show 2 * 0 + _ ≤ 8 by rw [Nat.mul_zero, Nat.zero_add]; exact hz)) hd ⟨by dsimp only; omega, by dsimp only; omega⟩) P hB (by dsimp only; omega) (by dsimp only; omega) hkb hwb (fun H1 locs1 hv P1 => ?_)
  have hD : mx_D G p l e R s m args below meth c Y kb wb k0 w0 σ'.1 Q Qs := by rw [hB]; exact D
  have k := K G p l e R s m args below meth c H1 locs1 _ _ k0 w0 Qs lr C hk hw P1 hl (fun w hw9 => ?_) hD
  · rw [List.map_append, show v.toList.map mx_c = (v.map mx_c).toList by cases v <;> rfl] at k
    exact k
  · rcases List.mem_append.mp hw9 with q | q
    · cases v with
      | none => simp at q
      | some x => simp at q; subst q; exact hv _ rfl
    · exact ho w (hR w q)

theorem mj_callIN {Y Y' : mx_M} {kb wb pc idx : Nat} {ls : List (Option mx_V)} {As rest : List mx_V} {σ σ' : mx_S} {Q : mx_R → Prop} {b : Nat} {n : Nat} {v : Option mx_V} (hd : decode Y.2.1 pc = .ok (.invokespecial idx, 3)) (hs : mx_kIN Y Y' idx n) (hn : As.length = n) (hz : mx_sz rest ≤ 8) (hM : mx_MS Y' (mR b :: As) σ (.inl (v, σ'))) (hkb : sK σ' ≤ kb) (hwb : sW σ' ≤ wb)
    (K : mx_J Y kb wb (pc + 3) ls (v.toList ++ rest) σ' Q) : mx_J Y kb wb pc ls (As.reverse ++ mR b :: rest) σ Q := by
  intro G p l e R s m args below meth c H locs cells slots k0 w0 Qs lr C hk hw P hl ho D
  have hA : ∀ w ∈ As, mx_ok w := fun w hw9 => ho w (List.mem_append_left _ (List.mem_reverse.mpr hw9))
  have hR : ∀ w ∈ rest, w ∈ As.reverse ++ mR b :: rest := fun w hw9 => by simp [hw9]
  obtain ⟨host, hho⟩ := hs.2.2.1
  obtain ⟨hB, hK1, hW1, hM⟩ := hM
  have hM := hM l G C.2.2.2.2.2.2.2.2.1
  have hcl := P.2.2.2.1
  have hsl := P.2.2.2.2.1
  dsimp only at hB hK1 hW1 hkb hwb
  refine mx_after (G := G) (σ := σ) (σ' := σ') (v := v) (kb := kb) (wb := wb) (k0 := k0) (w0 := w0) (va_runIN (As := As.map mx_c) (rest := rest.map mx_c) (b := b) (host := host) (mx_fix C) hM ⟨by have h9 := mx_CN (mc := sK σ' - sK σ) (ms := sW σ' - sW σ) C hs.1 hs.2.1 (P.1.2.2.2.2.2.2.1 _ hho); rw [hs.2.2.2.2.2] at h9; exact h9, hs.2.2.2.2.1, C.2.2.2.2.1 _ hs.2.2.2.1⟩ ⟨mx_pre_blind _ _ _, mx_pre_at P (mR b :: As) (mx_cons trivial hA)⟩ rfl (by simpa using hn) (by rw [hl.2.1]) (by rw [List.map_append, List.map_cons, List.map_reverse]; rfl) (by rw [List.map_map]; exact (show 2 * 0 + _ ≤ 8 by rw [Nat.mul_zero, Nat.zero_add]; exact hz)) hd ⟨by dsimp only; omega, by dsimp only; omega⟩) P hB (by dsimp only; omega) (by dsimp only; omega) hkb hwb (fun H1 locs1 hv P1 => ?_)
  have hD : mx_D G p l e R s m args below meth c Y kb wb k0 w0 σ'.1 Q Qs := by rw [hB]; exact D
  have k := K G p l e R s m args below meth c H1 locs1 _ _ k0 w0 Qs lr C hk hw P1 hl (fun w hw9 => ?_) hD
  · rw [List.map_append, show v.toList.map mx_c = (v.map mx_c).toList by cases v <;> rfl] at k
    exact k
  · rcases List.mem_append.mp hw9 with q | q
    · cases v with
      | none => simp at q
      | some x => simp at q; subst q; exact hv _ rfl
    · exact ho w (hR w q)

theorem mj_callSW {Y Y' : mx_M} {kb wb pc idx : Nat} {ls : List (Option mx_V)} {As rest : List mx_V} {σ σ' : mx_S} {Q : mx_R → Prop} {n : Nat} {v : Option mx_V} (hd : decode Y.2.1 pc = .ok (.invokestatic idx, 3)) (hs : mx_kSW Y Y' idx n) (hn : As.length = n) (hz : mx_sz rest ≤ 8) (hM : mx_MS Y' (As) σ (.inl (v, σ'))) (hkb : sK σ' ≤ kb) (hwb : sW σ' ≤ wb)
    (K : mx_J Y kb wb (pc + 3) ls (v.toList ++ rest) σ' Q) : mx_J Y kb wb pc ls (As.reverse ++ rest) σ Q := by
  intro G p l e R s m args below meth c H locs cells slots k0 w0 Qs lr C hk hw P hl ho D
  have hA : ∀ w ∈ As, mx_ok w := fun w hw9 => ho w (List.mem_append_left _ (List.mem_reverse.mpr hw9))
  have hR : ∀ w ∈ rest, w ∈ As.reverse ++ rest := fun w hw9 => by simp [hw9]
  obtain ⟨hB, hK1, hW1, hM⟩ := hM
  have hM := hM l G C.2.2.2.2.2.2.2.2.1
  have hcl := P.2.2.2.1
  have hsl := P.2.2.2.2.1
  dsimp only at hB hK1 hW1 hkb hwb
  refine mx_after (G := G) (σ := σ) (σ' := σ') (v := v) (kb := kb) (wb := wb) (k0 := k0) (w0 := w0) (vx_runSW (As := As.map mx_c) (rest := rest.map mx_c) (mx_fix C) hM ⟨⟨rfl, rfl, by rw [C.2.2.2.2.2.2.1]; exact hs.1.2.2.2.2.1, by rw [C.2.2.2.2.2.2.2.1]; exact hs.1.2.2.2.2.2, mx_wy_ok hs.1.1 C.2.2.2.2.1, by rw [← mx_cwH hs.2.1]; exact List.mem_cons_self⟩, by rw [← mx_cwH hs.2.1]; exact C.2.2.2.2.1 _ hs.1.1, C.2.2.2.2.1 _ hs.1.2.1, hs.1.2.2.1, mx_psig hs.1.2.2.2.1, C.2.2.2.2.1 _ hs.2.2.1, C.2.2.2.2.1 _ hs.2.2.2⟩ ⟨mx_pre_blind _ _ _, mx_pre_at P As hA⟩ rfl (by simpa using hn) (by rw [hl.2.1]) (by rw [List.map_append, List.map_reverse]) (by rw [List.map_map]; exact (show 2 * 0 + _ ≤ 8 by rw [Nat.mul_zero, Nat.zero_add]; exact hz)) hd ⟨by dsimp only; omega, by dsimp only; omega⟩) P hB (by dsimp only; omega) (by dsimp only; omega) hkb hwb (fun H1 locs1 hv P1 => ?_)
  have hD : mx_D G p l e R s m args below meth c Y kb wb k0 w0 σ'.1 Q Qs := by rw [hB]; exact D
  have k := K G p l e R s m args below meth c H1 locs1 _ _ k0 w0 Qs lr C hk hw P1 hl (fun w hw9 => ?_) hD
  · rw [List.map_append, show v.toList.map mx_c = (v.map mx_c).toList by cases v <;> rfl] at k
    exact k
  · rcases List.mem_append.mp hw9 with q | q
    · cases v with
      | none => simp at q
      | some x => simp at q; subst q; exact hv _ rfl
    · exact ho w (hR w q)

theorem mj_callVX_out {Y Y' : mx_M} {kb wb pc idx : Nat} {ls : List (Option mx_V)} {As rest : List mx_V} {σ σ' : mx_S} {Q : mx_R → Prop} {b ci : Nat} {fs : List mx_V} {n : Nat} {E : String} (hd : decode Y.2.1 pc = .ok (.invokevirtual idx, 3)) (hs : mx_kV Y Y' idx n) (hn : As.length = n) (hb : sH σ b = some (.inl (ci, fs))) (hci : (vwCl[ci]?).map (fun q => q.1) = some Y'.1.cls) (hz : mx_sz rest ≤ 8) (hM : mx_MS Y' (mR b :: As) σ (.inr (E, σ'))) (hkb : sK σ' ≤ kb) (hwb : sW σ' ≤ wb)
    (hps : mx_ps Y pc E) (K : Q (.inr (E, σ'))) : mx_J Y kb wb pc ls (As.reverse ++ mR b :: rest) σ Q := by
  intro G p l e R s m args below meth c H locs cells slots k0 w0 Qs lr C hk hw P hl ho D
  have hA : ∀ w ∈ As, mx_ok w := fun w hw9 => ho w (List.mem_append_left _ (List.mem_reverse.mpr hw9))
  obtain ⟨hB, hK1, hW1, h0, hM⟩ := hM
  have hM := hM l G C.2.2.2.2.2.2.2.2.1
  have hcl := P.2.2.2.1
  have hsl := P.2.2.2.2.1
  dsimp only at hB hK1 hW1 hkb hwb
  refine mx_afterX (G := G) (σ := σ) (σ' := σ') (E := E) (kb := kb) (wb := wb) (k0 := k0) (w0 := w0) (fun _ _ _ q => q) (vx_runV (As := As.map mx_c) (rest := rest.map mx_c) (b := b) (mx_fix C) hM ⟨mx_CB C hs.1 hs.2.1 (C.2.2.2.2.1 _ hs.2.2.1), C.2.2.2.2.1 _ hs.2.2.2.1, C.2.2.2.2.1 _ hs.2.2.2.2⟩ ⟨mx_pre_blind _ _ _, mx_recv P hb hci, mx_pre_at P (mR b :: As) (mx_cons trivial hA)⟩ rfl (by simpa using hn) (by rw [hl.2.1]) (by rw [List.map_append, List.map_cons, List.map_reverse]; rfl) (by rw [List.map_map]; exact (show 2 * 0 + _ ≤ 8 by rw [Nat.mul_zero, Nat.zero_add]; exact hz)) hd ⟨by dsimp only; omega, by dsimp only; omega⟩) P hB (by dsimp only; omega) (by dsimp only; omega) hkb hwb (fun n9 H1 locs1 q ce hn9 P1 hce hcv hclE => ?_)
  exact D.2.1 pc E σ' n9 H1 locs1 _ _ lr _ q ce K hB hn9 P1 hce hcv hclE hps
theorem mj_callVX_in {Y Y' : mx_M} {kb wb pc idx : Nat} {ls : List (Option mx_V)} {As rest : List mx_V} {σ σ' : mx_S} {Q : mx_R → Prop} {b ci : Nat} {fs : List mx_V} {n hp : Nat} {E : String} (hd : decode Y.2.1 pc = .ok (.invokevirtual idx, 3)) (hs : mx_kV Y Y' idx n) (hn : As.length = n) (hb : sH σ b = some (.inl (ci, fs))) (hci : (vwCl[ci]?).map (fun q => q.1) = some Y'.1.cls) (hz : mx_sz rest ≤ 8) (hM : mx_MS Y' (mR b :: As) σ (.inr (E, σ'))) (hkb : sK σ' ≤ kb) (hwb : sW σ' ≤ wb)
    (hch : mx_ch Y pc E hp) (K : ∀ (n9 q : Nat), sN σ' ≤ n9 → mx_J Y kb wb hp ls [mR q] (mx_at_n σ' n9) Q) : mx_J Y kb wb pc ls (As.reverse ++ mR b :: rest) σ Q := by
  intro G p l e R s m args below meth c H locs cells slots k0 w0 Qs lr C hk hw P hl ho D
  have hA : ∀ w ∈ As, mx_ok w := fun w hw9 => ho w (List.mem_append_left _ (List.mem_reverse.mpr hw9))
  obtain ⟨hB, hK1, hW1, h0, hM⟩ := hM
  have hM := hM l G C.2.2.2.2.2.2.2.2.1
  have hcl := P.2.2.2.1
  have hsl := P.2.2.2.2.1
  dsimp only at hB hK1 hW1 hkb hwb
  refine mx_afterX (G := G) (σ := σ) (σ' := σ') (E := E) (kb := kb) (wb := wb) (k0 := k0) (w0 := w0) (fun _ _ _ q => q) (vx_runV (As := As.map mx_c) (rest := rest.map mx_c) (b := b) (mx_fix C) hM ⟨mx_CB C hs.1 hs.2.1 (C.2.2.2.2.1 _ hs.2.2.1), C.2.2.2.2.1 _ hs.2.2.2.1, C.2.2.2.2.1 _ hs.2.2.2.2⟩ ⟨mx_pre_blind _ _ _, mx_recv P hb hci, mx_pre_at P (mR b :: As) (mx_cons trivial hA)⟩ rfl (by simpa using hn) (by rw [hl.2.1]) (by rw [List.map_append, List.map_cons, List.map_reverse]; rfl) (by rw [List.map_map]; exact (show 2 * 0 + _ ≤ 8 by rw [Nat.mul_zero, Nat.zero_add]; exact hz)) hd ⟨by dsimp only; omega, by dsimp only; omega⟩) P hB (by dsimp only; omega) (by dsimp only; omega) hkb hwb (fun n9 H1 locs1 q ce hn9 P1 hce hcv hclE => ?_)
  obtain ⟨pre, x, suf, name, c1, c2, c3, c4, c5, c6, c7⟩ := hch
  have hts := C.2.2.2.2.1
  subst c7
  refine vx_catch (E := E) (ce := ce) C.2.2.2.1 pre x suf (by rw [C.2.2.2.2.2.2.2.2.2.1]; exact c1) (fun z hz9 => ?_) c3 c4 (hts _ c5) (va_Nw.use rfl (P.1.2.2.2.2.2.2.1 _ c6)) hce hcv hclE ?_
  · rcases c2 z hz9 with h | ⟨h1, nm, h2, h3⟩
    · exact Or.inl h
    · exact Or.inr ⟨h1, nm, hts _ h2, P.1.2.2.2.2.2.2.2.1 _ h3⟩
  have hD : mx_D G p l e R s m args below meth c Y kb wb k0 w0 σ'.1 Q Qs := by rw [hB]; exact D
  exact K n9 q hn9 G p l e R s m args below meth c H1 locs1 _ _ k0 w0 Qs lr C hk hw P1 hl (mx_cons trivial (fun _ h => by cases h)) hD
theorem mj_callSX_out {Y Y' : mx_M} {kb wb pc idx : Nat} {ls : List (Option mx_V)} {As rest : List mx_V} {σ σ' : mx_S} {Q : mx_R → Prop} {n : Nat} {E : String} (hd : decode Y.2.1 pc = .ok (.invokestatic idx, 3)) (hs : mx_kS Y Y' idx n) (hn : As.length = n) (hz : mx_sz rest ≤ 8) (hM : mx_MS Y' (As) σ (.inr (E, σ'))) (hkb : sK σ' ≤ kb) (hwb : sW σ' ≤ wb)
    (hps : mx_ps Y pc E) (K : Q (.inr (E, σ'))) : mx_J Y kb wb pc ls (As.reverse ++ rest) σ Q := by
  intro G p l e R s m args below meth c H locs cells slots k0 w0 Qs lr C hk hw P hl ho D
  have hA : ∀ w ∈ As, mx_ok w := fun w hw9 => ho w (List.mem_append_left _ (List.mem_reverse.mpr hw9))
  obtain ⟨hB, hK1, hW1, h0, hM⟩ := hM
  have hM := hM l G C.2.2.2.2.2.2.2.2.1
  have hcl := P.2.2.2.1
  have hsl := P.2.2.2.2.1
  dsimp only at hB hK1 hW1 hkb hwb
  refine mx_afterX (G := G) (σ := σ) (σ' := σ') (E := E) (kb := kb) (wb := wb) (k0 := k0) (w0 := w0) (fun _ _ _ q => q) (vx_runS (As := As.map mx_c) (rest := rest.map mx_c) (mx_fix C) hM ⟨mx_CB C hs.1 hs.2.1 (C.2.2.2.2.1 _ hs.2.2.1), C.2.2.2.2.1 _ hs.2.2.2⟩ ⟨mx_pre_blind _ _ _, mx_pre_at P As hA⟩ rfl (by simpa using hn) (by rw [hl.2.1]) (by rw [List.map_append, List.map_reverse]) (by rw [List.map_map]; exact (show 2 * 0 + _ ≤ 8 by rw [Nat.mul_zero, Nat.zero_add]; exact hz)) hd ⟨by dsimp only; omega, by dsimp only; omega⟩) P hB (by dsimp only; omega) (by dsimp only; omega) hkb hwb (fun n9 H1 locs1 q ce hn9 P1 hce hcv hclE => ?_)
  exact D.2.1 pc E σ' n9 H1 locs1 _ _ lr _ q ce K hB hn9 P1 hce hcv hclE hps
theorem mj_callSX_in {Y Y' : mx_M} {kb wb pc idx : Nat} {ls : List (Option mx_V)} {As rest : List mx_V} {σ σ' : mx_S} {Q : mx_R → Prop} {n hp : Nat} {E : String} (hd : decode Y.2.1 pc = .ok (.invokestatic idx, 3)) (hs : mx_kS Y Y' idx n) (hn : As.length = n) (hz : mx_sz rest ≤ 8) (hM : mx_MS Y' (As) σ (.inr (E, σ'))) (hkb : sK σ' ≤ kb) (hwb : sW σ' ≤ wb)
    (hch : mx_ch Y pc E hp) (K : ∀ (n9 q : Nat), sN σ' ≤ n9 → mx_J Y kb wb hp ls [mR q] (mx_at_n σ' n9) Q) : mx_J Y kb wb pc ls (As.reverse ++ rest) σ Q := by
  intro G p l e R s m args below meth c H locs cells slots k0 w0 Qs lr C hk hw P hl ho D
  have hA : ∀ w ∈ As, mx_ok w := fun w hw9 => ho w (List.mem_append_left _ (List.mem_reverse.mpr hw9))
  obtain ⟨hB, hK1, hW1, h0, hM⟩ := hM
  have hM := hM l G C.2.2.2.2.2.2.2.2.1
  have hcl := P.2.2.2.1
  have hsl := P.2.2.2.2.1
  dsimp only at hB hK1 hW1 hkb hwb
  refine mx_afterX (G := G) (σ := σ) (σ' := σ') (E := E) (kb := kb) (wb := wb) (k0 := k0) (w0 := w0) (fun _ _ _ q => q) (vx_runS (As := As.map mx_c) (rest := rest.map mx_c) (mx_fix C) hM ⟨mx_CB C hs.1 hs.2.1 (C.2.2.2.2.1 _ hs.2.2.1), C.2.2.2.2.1 _ hs.2.2.2⟩ ⟨mx_pre_blind _ _ _, mx_pre_at P As hA⟩ rfl (by simpa using hn) (by rw [hl.2.1]) (by rw [List.map_append, List.map_reverse]) (by rw [List.map_map]; exact (show 2 * 0 + _ ≤ 8 by rw [Nat.mul_zero, Nat.zero_add]; exact hz)) hd ⟨by dsimp only; omega, by dsimp only; omega⟩) P hB (by dsimp only; omega) (by dsimp only; omega) hkb hwb (fun n9 H1 locs1 q ce hn9 P1 hce hcv hclE => ?_)
  obtain ⟨pre, x, suf, name, c1, c2, c3, c4, c5, c6, c7⟩ := hch
  have hts := C.2.2.2.2.1
  subst c7
  refine vx_catch (E := E) (ce := ce) C.2.2.2.1 pre x suf (by rw [C.2.2.2.2.2.2.2.2.2.1]; exact c1) (fun z hz9 => ?_) c3 c4 (hts _ c5) (va_Nw.use rfl (P.1.2.2.2.2.2.2.1 _ c6)) hce hcv hclE ?_
  · rcases c2 z hz9 with h | ⟨h1, nm, h2, h3⟩
    · exact Or.inl h
    · exact Or.inr ⟨h1, nm, hts _ h2, P.1.2.2.2.2.2.2.2.1 _ h3⟩
  have hD : mx_D G p l e R s m args below meth c Y kb wb k0 w0 σ'.1 Q Qs := by rw [hB]; exact D
  exact K n9 q hn9 G p l e R s m args below meth c H1 locs1 _ _ k0 w0 Qs lr C hk hw P1 hl (mx_cons trivial (fun _ h => by cases h)) hD
theorem mj_objInit {Y : mx_M} {kb wb pc idx a : Nat} {ls : List (Option mx_V)} {rest : List mx_V} {σ : mx_S} {Q : mx_R → Prop} (hd : decode Y.2.1 pc = .ok (.invokespecial idx, 3)) (h1 : Cond.methodLink Y.1.cls idx Lib.objectInit ∈ mx_ws) (h2 : Cond.instanceMethod Lib.objectInit ∈ mx_ws) (h3 : Cond.code Lib.objectInit ⟨#[0xb1]⟩ 1 none ∈ mx_ws) (hf : 1 ≤ Y.2.2.2.2.1) (hz : mx_sz rest + 12 ≤ Y.2.2.2.2.2.1)
    (K : mx_J Y kb wb (pc + 3) ls rest σ Q) : mx_J Y kb wb pc ls (mR a :: rest) σ Q := by
  intro G p l e R s m args below meth c H locs cells slots k0 w0 Qs lr C hk hw P hl ho D
  exact W.objInit C.1 C.2.1 C.2.2.2.1 (C.2.2.2.2.1 _ h1) (C.2.2.2.2.1 _ h2) (C.2.2.2.2.1 _ h3) rfl (by show lr.size = _; rw [hl.2.1, C.2.2.1]) rfl hd (by rw [C.2.2.2.2.2.2.1]; exact hf) (by rw [C.2.2.2.2.2.2.2.1, List.map_map]; show 2 * 0 + mx_sz rest + 12 ≤ _; omega)
    (K G p l e R s m args below meth c H locs cells slots k0 w0 Qs lr C hk hw P hl (mx_tl ho) D)
def cpV (f g : Nat → mx_V) (sp dp n : Nat) : Nat → mx_V := va_cpy f g sp dp n
theorem mj_copy {Y : mx_M} {kb wb pc idx a0 a kd n0 n1 : Nat} {sp dp n : Int} {f g : Nat → mx_V} {ls : List (Option mx_V)} {rest : List mx_V} {σ : mx_S} {Q : mx_R → Prop} (hd : decode Y.2.1 pc = .ok (.invokestatic idx, 3)) (w1 : Cond.methodLink Y.1.cls idx arraycopyName ∈ mx_ws) (w2 : Cond.native arraycopyName ∈ mx_ws) (w3 : Cond.static arraycopyName ∈ mx_ws) (w4 : Cond.initialized "java/lang/System" ∈ mx_ws) (hf : 1 ≤ Y.2.2.2.2.1) (hz : mx_sz rest + (nativeFrameWords "java/lang/System" "arraycopy" 5 + 11) ≤ Y.2.2.2.2.2.1)
    (hc0 : sH σ a0 = some (.inr (kd, n0, f))) (hc1 : sH σ a = some (.inr (kd, n1, g))) (hkd : kd < 2) (hb : sB σ ≤ a) (h1 : 0 ≤ sp) (h2 : 0 ≤ dp) (h3 : 0 ≤ n) (h4 : sp + n ≤ n0) (h5 : dp + n ≤ n1) (hfit : ∀ i : Nat, i < n.toNat → fits (mx_ty kd) (mx_c (f (sp.toNat + i))) = true)
    (K : mx_J Y kb wb (pc + 3) ls rest (mx_wr σ a (.inr (kd, n1, cpV f g sp.toNat dp.toNat n.toNat))) Q) : mx_J Y kb wb pc ls (mI n :: mI dp :: mR a :: mI sp :: mR a0 :: rest) σ Q := by
  intro G p l e R s m args below meth c H locs cells slots k0 w0 Qs lr C hk hw P hl ho D
  have hsrc : ∃ cs : Cell, H[a0]? = some cs ∧ (∀ k, cs.vm ≠ .statics k) ∧ cs.vm ≠ .unknown ∧ (∃ k, s.vm.classes[cs.cls]? = some k ∧ ∃ comp, k.kind = .array comp (mx_ty kd)) ∧ cs.slots = (arrV (G.2.1 kd) n0 (fun j => mx_c (f j))).slots ∧ ∀ j : Nat, j < n0 → mx_ok (f j) := by
    rcases P.2.1.2.2 a0 _ hc0 with hat | ⟨-, hkd0, scr, g1, g2, g3, g4, g5, g6, g7⟩
    · obtain ⟨q6, c0, o0, -⟩ := mx_arr hat
      exact ⟨_, c0, fun _ h => (by cases h), fun h => (by cases h), ((P.1.2.2.1 kd q6).1 n0 (fun j => mx_c (f j))).2, rfl, o0⟩
    · have hkd0 : kd = 0 := hkd0
      subst hkd0
      exact ⟨scr, g1, g2, g3, (mx_sc_arr P.1.2.2.2.2.2.2.2.2.2 g2 g4).2, g5, g6⟩
  obtain ⟨cs, c0, cst, cun, ⟨k8, hk8, cm8, hkk8⟩, csl, o0⟩ := hsrc
  have hat1 := mx_H_w P.2.1 hc1 hb
  obtain ⟨g6, c1, o1, z1⟩ := mx_arr hat1
  have on := mx_hd ho
  have odp := mx_hd (mx_tl ho)
  have osp := mx_hd (mx_tl (mx_tl (mx_tl ho)))
  have neg : ∀ {x : Int}, mx_ok (mI x) → 0 ≤ x → ¬ Int32.ofInt x < 0 := fun hx h0 z => by have := (mx_lt hx mx_ok0).mp z; omega
  intro T hT X
  obtain ⟨-, k9, hk0, cm0, hkk0⟩ := (P.1.2.2.1 kd g6).1 n0 (fun j => mx_c (f j))
  have hprim : refKind (mx_ty kd) = false := by
    rcases (show kd = 0 ∨ kd = 1 by omega) with h | h <;> subst h <;> rfl
  obtain ⟨vm', X', step⟩ := X.arraycopy C.1 C.2.2.2.1 (C.2.2.2.2.1 _ w1) (C.2.2.2.2.1 _ w2) (C.2.2.2.2.1 _ w3) (C.2.2.2.2.1 _ w4) (src := a0) (dst := a) (cs := cs) (cd := arrV (G.2.1 kd) n1 (fun j => mx_c (g j))) (srcPos := Int32.ofInt sp) (destPos := Int32.ofInt dp) (n := Int32.ofInt n) (by rw [hT]; exact c0) (by rw [hT]; exact c1)
    cst (fun _ h => by cases h) cun (fun h => by cases h) hk8 hk0 hkk8 hkk0 (by simp [hprim]) (neg osp h1) (neg odp h2) (neg on h3)
    (by rw [mx_toInt osp, mx_toInt on, csl, arrV_size]; omega) (by rw [mx_toInt odp, mx_toInt on, arrV_size]; omega)
    (fun vm₁ _ i hi => by
      have e : cs.slots.getD ((Int32.ofInt sp).toNatClampNeg + i) .null = mx_c (f (sp.toNat + i)) := by
        rw [mx_ix on h3] at hi
        rw [mx_ix osp h1, csl, Array.getD_eq_getD_getElem?, arrV_read _ _ (by omega)]
        rfl
      refine ⟨?_, ?_⟩
      · rw [e]
        exact hfit i (by rw [mx_ix on h3] at hi; exact hi)
      · rw [e]
        have h9 := hfit i (by rw [mx_ix on h3] at hi; exact hi)
        generalize f (sp.toNat + i) = v at h9
        rcases v with x | (_ | b) | x | x | x
        · exact trivial
        · exact trivial
        all_goals (rcases (show kd = 0 ∨ kd = 1 by omega) with h | h <;> subst h <;> cases h9))
    (g := F0 m pc lr ((mI n :: mI dp :: mR a :: mI sp :: mR a0 :: rest).map mx_c)) rfl (by show lr.size = _; rw [hl.2.1, C.2.2.1]) (rest := rest.map mx_c) rfl (by rw [C.2.1]; exact hd) (by rw [C.2.2.2.2.2.2.1]; exact hf) (by rw [C.2.2.2.2.2.2.2.1, List.map_map]; show 2 * 0 + mx_sz rest + _ ≤ _; omega)
  have e1 : copied cs (arrV (G.2.1 kd) n1 (fun j => mx_c (g j))) (Int32.ofInt sp) (Int32.ofInt dp) (Int32.ofInt n) = arrV (G.2.1 kd) n1 (fun j => mx_c (cpV f g sp.toNat dp.toNat n.toNat j)) := by
    have h := va_copied mx_c (G.2.1 kd) (G.2.1 kd) (sp := sp.toNat) (dp := dp.toNat) (n := n.toNat) (n0 := n0) (n1 := n1) f g (by omega)
    have hst : cs.stretch sp.toNat n.toNat = (arrV (G.2.1 kd) n0 (fun j => mx_c (f j))).stretch sp.toNat n.toNat := by
      unfold Cell.stretch
      rw [csl]
    unfold copied
    rw [mx_ix osp h1, mx_ix odp h2, mx_ix on h3, hst]
    exact h
  rw [e1] at X' step
  have hlt : a < H.size := (Array.getElem?_eq_some_iff.mp c1).1
  have oq : ∀ q : Nat, q ≠ a → (H.setIfInBounds a (arrV (G.2.1 kd) n1 (fun j => mx_c (cpV f g sp.toNat dp.toNat n.toNat j))))[q]? = H[q]? := fun q hq => by simp [Array.getElem?_setIfInBounds, Ne.symm hq]
  have hheap : ((T.setVm vm').setCell a (arrV (G.2.1 kd) n1 (fun j => mx_c (cpV f g sp.toNat dp.toNat n.toNat j)))).heap = H.setIfInBounds a (arrV (G.2.1 kd) n1 (fun j => mx_c (cpV f g sp.toNat dp.toNat n.toNat j))) := by rw [← hT]; rfl
  have hatn : mx_at G (.inr (kd, n1, cpV f g sp.toNat dp.toNat n.toNat)) a (H.setIfInBounds a (arrV (G.2.1 kd) n1 (fun j => mx_c (cpV f g sp.toNat dp.toNat n.toNat j)))) := by
    refine ⟨g6, by simp [Array.getElem?_setIfInBounds, hlt], fun j hj => ?_, z1⟩
    show mx_ok (va_cpy f g _ _ _ j)
    unfold va_cpy
    split
    · exact o0 _ (by omega)
    · exact o1 j hj
  obtain ⟨t, a1, b1⟩ := K G p l e R s m args below meth c _ _ cells slots k0 w0 Qs lr C hk hw (mx_P_wr P (mx_H_wr P.2.1 hc1 (by simp) hatn oq) ⟨by simp; exact P.2.2.1.1, fun q g1 g2 => by
      rw [oq q (fun e => g2 (by rw [e]; exact hb))]
      exact P.2.2.1.2.1 q g1 g2, fun q hq => by
      rcases List.mem_append.mp hq with h | h
      · exact P.2.2.1.2.2 q h
      · obtain ⟨z, -, hz9⟩ := List.mem_map.mp h
        rw [← hz9]
        exact hb⟩) hl (mx_tl (mx_tl (mx_tl (mx_tl (mx_tl ho))))) D _ hheap X'
  exact ⟨t, step t a1, b1⟩
