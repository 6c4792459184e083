/-! Arrays of rows of letters. -/
theorem mx_aoc {G : mx_G} {b : Nat} {s : State} {H : Heap} (h : mx_W G b s H) : ∃ (k kC : Class), s.vm.classes[G.2.1 3]? = some k ∧ k.kind = .array (G.2.1 1) (.array .char) ∧ s.vm.classes[G.2.1 1]? = some kC := by
  have h1 : (Cond.arrayOver (.array .char)).before #[] s = true := h.2.2.2.2.2.2.2.2.1 _ (by decide)
  obtain ⟨comp, c, k, hc, hi, hk, hkind, hn⟩ := arrayOverA_spec h1
  have e3 : s.vm.findClass ("[" ++ (FieldType.array .char).toString) = some (G.2.1 3) := (h.2.2.1 3 (by decide)).2
  have e1 : s.vm.findClass ("[" ++ FieldType.char.toString) = some (G.2.1 1) := (h.2.2.1 1 (by decide)).2
  have c3 : c = G.2.1 3 := Option.some.inj (hn.symm.trans e3)
  have c1 : comp = G.2.1 1 := Option.some.inj (hc.symm.trans e1)
  subst c3
  subst c1
  obtain ⟨kC, hkC, -⟩ := Vm.findClass_spec hc
  exact ⟨k, kC, hk, hkind, hkC⟩
theorem as_self (vm : Vm) (c : ClassId) : vm.assignable c c = true := by
  show Vm.assignableAux vm (255 + 1) c c = true
  unfold Vm.assignableAux
  simp
theorem mj_anewC {Y : mx_M} {kb wb pc : Nat} {ls : List (Option mx_V)} {st : List mx_V} {σ : mx_S} {Q : mx_R → Prop} {idx : Nat} {n : Int} (hd : decode Y.2.1 pc = .ok (.anewarray idx, 3)) (hw9 : Cond.classLink Y.1.cls idx "[C" ∈ mx_ws) (h0 : 0 ≤ n) (hn : n ≤ 134217728) (hkb : sK σ + 1 ≤ kb) (hwb : sW σ + n.toNat ≤ wb)
    (K : mx_J Y kb wb (pc + 3) ls (mR (sN σ) :: st) (mx_al σ (.inr (3, n.toNat, fun _ => mN)) n.toNat) Q) : mx_J Y kb wb pc ls (mI n :: st) σ Q := by
  intro G p l e R s m args below meth c H locs cells slots k0 w0 Qs lr C hk hw P hl ho D
  have hi := mx_hd ho
  have hcl := P.2.2.2.1
  have hsl := P.2.2.2.2.1
  have hn0 : ¬ Int32.ofInt n < 0 := fun z => by have := (mx_lt hi mx_ok0).mp z; omega
  have hAO : (Cond.arrayOver (.array .char)).before args s = true := va_AOA.use (t := .char) (show mx_ov (.array .char) s from P.1.2.2.2.2.2.2.2.2.1 (.array .char) (by decide))
  have hN := mx_ix hi h0
  refine W.anewA (t := .char) C.1 C.2.1 C.2.2.2.1 (C.2.2.2.2.1 _ hw9) hAO rfl hd rfl hn0 (by rw [hN]; omega) (by omega) (by rw [hN]; omega) fun cA kA comp f1 f2 f3 f4 => ?_
  have hA : cA = G.2.1 3 := Option.some.inj (f1.symm.trans (P.1.2.2.1 3 (by decide)).2)
  subst hA
  rw [hN, arrV_new]
  have z1 : (H.push (arrV (G.2.1 3) n.toNat fun _ => .null)).size = H.size + 1 := by simp
  have o1 : ∀ q : Nat, q < H.size → (H.push (arrV (G.2.1 3) n.toNat fun _ => .null))[q]? = H[q]? := fun q hq => by rw [Array.getElem?_push, if_neg (Nat.ne_of_lt hq)]
  have hat1 : mx_at G (.inr (3, n.toNat, fun _ => mN)) H.size (H.push (arrV (G.2.1 3) n.toNat fun _ => .null)) := ⟨by show 3 < 6; decide, by simp [mx_c], fun _ _ => trivial, by show n.toNat ≤ 2147483647; omega⟩
  have k := K G p l e R s m args below meth c _ locs (cells + 1) (slots + n.toNat) k0 w0 Qs lr C hk hw (mx_P_al P (mx_H_al P.2.1 hat1 z1 o1) hkb hwb z1 o1) hl (mx_cons trivial (mx_tl ho)) D
  rw [List.map_cons, show mx_c (mR (sN σ)) = .ref H.size by rw [P.2.1.2.1]; rfl] at k
  exact k
theorem mj_aastC {Y : mx_M} {kb wb pc : Nat} {ls : List (Option mx_V)} {st : List mx_V} {σ : mx_S} {Q : mx_R → Prop} {n m9 a q : Nat} {i : Int} {f g : Nat → mx_V} (hd : decode Y.2.1 pc = .ok (.aastore, 1)) (hc : sH σ a = some (.inr (3, n, f))) (hb : sB σ ≤ a) (h0 : 0 ≤ i) (h1 : i < n) (hv : sH σ q = some (.inr (1, m9, g)))
    (K : mx_J Y kb wb (pc + 1) ls st (mx_wr σ a (.inr (3, n, upV f i.toNat (mR q)))) Q) : mx_J Y kb wb pc ls (mR q :: mI i :: mR a :: st) σ Q := by
  intro G p l e R s m args below meth c H locs cells slots k0 w0 Qs lr C hk hw P hl ho D
  have hat := mx_H_w P.2.1 hc hb
  obtain ⟨h6, h2, h3, h4⟩ := mx_arr hat
  have hi := mx_hd (mx_tl ho)
  obtain ⟨-, v2, -, -⟩ := mx_arr (mx_H_r P.2.1 hv (show (1 : Nat) ≠ 0 by decide))
  obtain ⟨kA, kC, k1, k2, k3⟩ := mx_aoc P.1
  refine W.aast C.1 C.2.1 h2 (fun q h => by cases h) (fun h => by cases h) k1 k2 rfl k3 ⟨fun z => by have := (mx_lt hi mx_ok0).mp z; omega, by rw [arrV_size, mx_ix hi h0]; omega⟩ v2 (fun q h => by cases h) k3 (as_self _ _) rfl rfl hd (fun H1 e1 z oq => ?_)
  rw [mx_ix hi h0] at e1
  have hat1 := mx_at_up (v := mR q) hat (mx_hd ho) e1
  exact K G p l e R s m args below meth c H1 _ cells slots k0 w0 Qs lr C hk hw (mx_P_wr P (mx_H_wr P.2.1 hc z hat1 oq) (P.2.2.1.put z oq hb)) hl (mx_tl (mx_tl (mx_tl ho))) D
