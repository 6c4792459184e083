/-! Cells: reads, writes, new ones. -/
/-- the cell at a is e now -/
def mx_wr (σ : mx_S) (a : Nat) (e : mx_E) : mx_S := (σ.1, fun q => if q = a then some e else σ.2.1 q, σ.2.2)
/-- a new cell e of w slots -/
def mx_al (σ : mx_S) (e : mx_E) (w : Nat) : mx_S := (σ.1, fun q => if q = σ.2.2.1 then some e else σ.2.1 q, σ.2.2.1 + 1, σ.2.2.2.1 + 1, σ.2.2.2.2 + w)
def upV (f : Nat → mx_V) (k : Nat) (v : mx_V) : Nat → mx_V := fun j => if j = k then v else f j
theorem upV_I (f : Nat → Int) (k : Nat) (x : Int) : upV (fun j => mI (f j)) k (mI x) = fun j => mI (if j = k then x else f j) := by
  funext j
  unfold upV
  by_cases h : j = k <;> simp [h]
/-- the field k of class ci is read by the entry idx -/
def mx_lf (Y : mx_M) (idx ci k : Nat) : Prop := ∃ (C : String) (T : u_T) (N : Nat), vwCl[ci]? = some (C, T, N) ∧ k < N ∧ (∀ w ∈ u_ws C T N, w ∈ mx_ws) ∧ Cond.fieldLink Y.1.cls idx (T k).1 (T k).2.1 (T k).2.2.1 ∈ mx_ws
/-- ... and written, its type being ty -/
def mx_pf (Y : mx_M) (idx ci k : Nat) (ty : FieldType) : Prop := ∃ (C : String) (T : u_T) (N : Nat) (t0 : Nat → FieldType), vwCl[ci]? = some (C, T, N) ∧ k < N ∧ (∀ w ∈ u_ws C T N, w ∈ mx_ws) ∧ Cond.fieldLink Y.1.cls idx (T k).1 (T k).2.1 (T k).2.2.1 ∈ mx_ws ∧
  (∀ k, k < N → parseFieldDescriptor (T k).2.2.1 = some (t0 k)) ∧ (∀ a, a < N → ∀ b, b < N → a ≠ b → (T a).2.1 ≠ (T b).2.1) ∧ parseFieldDescriptor (T k).2.2.1 = some ty ∧ ((T k).2.2.2 = false ∨ ((T k).2.2.2 = true ∧ Y.1.name = "<init>" ∧ (T k).1 = Y.1.cls))
/-- a value fits a type -/
def mx_ft (ty : FieldType) (v : mx_V) : Prop := narrow ty (mx_c v) = mx_c v ∧ fits ty (mx_c v) = true
theorem mx_ix {i : Int} (h : mx_ok (mI i)) (h0 : 0 ≤ i) : (Int32.ofInt i).toNatClampNeg = i.toNat := by
  show (Int32.ofInt i).toInt.toNat = _
  rw [mx_toInt h]
theorem mx_in {i : Int} {n : Nat} (h : mx_ok (mI i)) (h0 : 0 ≤ i) (h1 : i < n) : ¬ (Int32.ofInt i < 0 ∨ n ≤ (Int32.ofInt i).toNatClampNeg) := by
  rw [mx_ix h h0]
  intro q
  rcases q with q | q
  · have := (mx_lt h mx_ok0).mp q
    omega
  · omega
theorem mx_at.obj {G : mx_G} {ci a : Nat} {fs : List mx_V} {H : Heap} (h : mx_at G (.inl (ci, fs)) a H) : va_P G.1 vwCl [(a, .inr (ci, fs.map mx_c))] H := by
  intro k q hk
  match k, hk with
  | 0, hk => cases hk; exact h.1
  | k + 1, hk => simp at hk
theorem mx_K {G : mx_G} {b : Nat} {s : State} {H : Heap} (h : mx_W G b s H) : va_K G.1 vwCl [] s := ⟨h.2.1, fun k q hk => by simp at hk⟩
theorem mx_len {G : mx_G} {ci a : Nat} {fs : List mx_V} {H : Heap} {k : Nat} {v : mx_V} (h : mx_at G (.inl (ci, fs)) a H) (hv : fs[k]? = some v) : mx_ok v := h.2 v (List.mem_of_getElem? hv)
theorem mj_get {Y : mx_M} {kb wb pc : Nat} {ls : List (Option mx_V)} {st : List mx_V} {σ : mx_S} {Q : mx_R → Prop} {idx ci k a : Nat} {fs : List mx_V} {v : mx_V} (hd : decode Y.2.1 pc = .ok (.getfield idx, 3)) (hf : mx_lf Y idx ci k) (hc : sH σ a = some (.inl (ci, fs))) (hv : fs[k]? = some v)
    (K : mx_J Y kb wb (pc + 3) ls (v :: st) σ Q) : mx_J Y kb wb pc ls (mR a :: st) σ Q := by
  intro G p l e R s m args below meth c H locs cells slots k0 w0 Qs lr C hk hw P hl ho D
  obtain ⟨C9, T, N, h1, h2, h3, h4⟩ := hf
  have hat := mx_H_o P.2.1 hc
  exact va_get C.1 C.2.1 (Ts := mx_ws) C.2.2.2.2.1 h3 C.2.2.2.1 (mx_K P.1) hat.obj 0 rfl h1 k h2 (C.2.2.2.2.1 _ h4) (fun _ h => h) (v := mx_c v) (by rw [List.getElem?_map, hv]; rfl) hd
    (K G p l e R s m args below meth c H locs cells slots k0 w0 Qs lr C hk hw P hl (mx_cons (mx_len hat hv) (mx_tl ho)) D)
/-- a heap in which one cell was written -/
theorem mx_H_wr {G : mx_G} {σ : mx_S} {H H1 : Heap} {a : Nat} {e e1 : mx_E} (h : mx_H G σ H) (ha : σ.2.1 a = some e) (hz : H1.size = H.size) (h1 : mx_at G e1 a H1) (oq : ∀ q : Nat, q ≠ a → H1[q]? = H[q]?) : mx_H G (mx_wr σ a e1) H1 := by
  refine ⟨by rw [hz]; exact h.1, by rw [hz]; exact h.2.1, fun q e2 hq => ?_⟩
  unfold mx_wr at hq
  by_cases g : q = a
  · subst g
    simp at hq
    subst hq
    exact Or.inl h1
  · simp [g] at hq
    exact mx_H_k (h.2.2 q e2 hq) (oq q g)
theorem mx_P_wr {G : mx_G} {s : State} {kb wb k0 w0 cells slots : Nat} {σ : mx_S} {H H1 : Heap} {locs locs1 : List Loc} {a : Nat} {e1 : mx_E} (P : mx_P G s kb wb k0 w0 cells slots σ H locs) (h : mx_H G (mx_wr σ a e1) H1) (hS : va_S (mx_A σ.1) s.heap H1 locs1) : mx_P G s kb wb k0 w0 cells slots (mx_wr σ a e1) H1 locs1 :=
  ⟨P.1, h, hS, P.2.2.2.1, P.2.2.2.2.1, P.2.2.2.2.2.1, P.2.2.2.2.2.2⟩
theorem mx_ft_ok {G : mx_G} {ci a : Nat} {fs : List mx_V} {H : Heap} {k : Nat} {v : mx_V} (h : ∀ w ∈ fs, mx_ok w) (hv : mx_ok v) : ∀ w ∈ fs.set k v, mx_ok w := by
  intro w hw
  rcases List.mem_or_eq_of_mem_set hw with q | q
  · exact h w q
  · rw [q]; exact hv
theorem mj_put {Y : mx_M} {kb wb pc : Nat} {ls : List (Option mx_V)} {st : List mx_V} {σ : mx_S} {Q : mx_R → Prop} {idx ci k a : Nat} {fs : List mx_V} {v : mx_V} {ty : FieldType} (hd : decode Y.2.1 pc = .ok (.putfield idx, 3)) (hf : mx_pf Y idx ci k ty) (hc : sH σ a = some (.inl (ci, fs))) (hk9 : k < fs.length) (hb : sB σ ≤ a) (ht : mx_ft ty v)
    (K : mx_J Y kb wb (pc + 3) ls st (mx_wr σ a (.inl (ci, fs.set k v))) Q) : mx_J Y kb wb pc ls (v :: mR a :: st) σ Q := by
  intro G p l e R s m args below meth c H locs cells slots k0 w0 Qs lr C hk hw P hl ho D
  obtain ⟨C9, T, N, t0, h1, h2, h3, h4, h5, h6, h7, h8⟩ := hf
  have hat := mx_H_o P.2.1 hc
  have hD : va_D (mx_A σ.1) [(a, (.inr (ci, fs.map mx_c) : va_E))] := by
    refine ⟨fun i j p q hi hj _ => ?_, fun k q hq => ?_⟩
    · match i, j, hi, hj with
      | 0, 0, _, _ => rfl
      | i + 1, _, hi, _ => simp at hi
      | _, j + 1, _, hj => simp at hj
    · match k, hq with
      | 0, hq => cases hq; exact hb
      | k + 1, hq => simp at hq
  have fin : ∀ (H1 : Heap) (locs1 : List Loc), va_P G.1 vwCl ([(a, (.inr (ci, fs.map mx_c) : va_E))].set 0 (a, .inr (ci, (fs.map mx_c).set k (mx_c v)))) H1 → H1.size = H.size → (∀ q, q ≠ a → H1[q]? = H[q]?) → va_S (mx_A σ.1) s.heap H1 locs1 → W p l e R s m args below meth c H1 locs1 cells slots Qs (F0 m (pc + 3) lr (st.map mx_c)) := by
    intro H1 locs1 hP hz oq hS
    have hat1 : mx_at G (.inl (ci, fs.set k v)) a H1 := ⟨by rw [List.map_set]; exact hP 0 _ rfl, mx_ft_ok (G := G) (ci := ci) (a := a) (H := H) hat.2 (mx_hd ho)⟩
    exact K G p l e R s m args below meth c H1 locs1 cells slots k0 w0 Qs lr C hk hw (mx_P_wr P (mx_H_wr P.2.1 hc hz hat1 oq) hS) hl (mx_tl (mx_tl ho)) D
  have hap := va_apart (own := Y.1.cls) C.2.2.2.2.1 h3 t0 h5 h6 (mx_K P.1) h1
  have hP0 := hat.obj
  obtain ⟨r, e1, cell, q1, q2, q3, q4⟩ := hP0 0 _ rfl
  have hr : r = (C9, T, N) := Option.some.inj (e1.symm.trans h1)
  subst hr
  obtain ⟨hS9, hfc, kC, hkC, hkind⟩ := (mx_K P.1).1 ci _ h1
  obtain ⟨cf, kf, fi, f, hi, hsl⟩ := hS9 k h2
  have hl9 : k < (fs.map mx_c).length := by simpa using hk9
  have hlay := C.2.2.2.2.1 _ (h3 _ (u_in_lay h2))
  have hst := (u_facts hfc hkC (u_lays C.2.2.2.2.1 h3 h2) hi).1
  have close : ∀ H' : Heap, H'[a]? = some (cell.setSlot f.slot (mx_c v)) → H'.size = H.size → (∀ q, q ≠ a → H'[q]? = H[q]?) → W p l e R s m args below meth c H' (locs ++ [⟨a, f.slot⟩]) cells slots Qs (F0 m (pc + 3) lr (st.map mx_c)) := by
    intro H' z1 z2 z3
    rw [hsl] at z1 ⊢
    exact fin H' _ (hP0.set hD rfl ⟨_, h1, t_OB.to (V := updV (vp_V (fs.map mx_c)) k (mx_c v)) ⟨_, z1, q2, q3, t_set q4 hap h2 (mx_c v)⟩ (fun j _ => vp_updV_set hl9 (mx_c v) j)⟩ z3) z2 z3 (P.2.2.1.put z2 z3 hb)
  rcases h8 with h8 | ⟨h8, hin, hdecl⟩
  · have hu := hlay
    unfold u_lay at hu
    rw [if_neg (by rw [h8]; decide)] at hu
    have h9 := u_store hfc hkC hkind hu hi h7 ht.1 ht.2
    exact W.putK C.1 C.2.1 (f := f) ⟨C.2.2.2.1, C.2.2.2.2.1 _ h4, ⟨_, _, _, hi⟩, hst⟩ (by rw [q2]; exact h9) q1 q3 (by rw [hsl]; exact k2_hasslot (q4 k h2)) rfl rfl hd close
  · have hu := hlay
    unfold u_lay at hu
    rw [if_pos h8] at hu
    have hcf : m.cls = cf := by
      obtain ⟨_, _, c', _, _, _, -, -, hf', -, -, -, hown2, -⟩ := Cond.laysFinal_spec hu
      have e9 : c' = cf := by have := hi.symm.trans hf'; simp at this; exact this.1.symm
      rw [hdecl] at hown2
      rw [← e9]; exact Option.some.inj (C.2.2.2.1.symm.trans hown2)
    have h9 := u_fits hfc hkC hkind (Or.inr hu) hi h7 ht.1 ht.2
    exact W.putFinK C.1 C.2.1 C.2.2.2.1 (C.2.2.2.2.1 _ h4) hi hst hcf (by rw [C.2.2.2.2.2.1]; exact hin) (by rw [q2]; exact h9) q1 q3 (by rw [hsl]; exact k2_hasslot (q4 k h2)) rfl rfl hd close
/-! arrays -/
theorem mx_arr {G : mx_G} {kd n a : Nat} {f : Nat → mx_V} {H : Heap} (h : mx_at G (.inr (kd, n, f)) a H) : kd < 6 ∧ H[a]? = some (arrV (G.2.1 kd) n (fun j => mx_c (f j))) ∧ (∀ j : Nat, j < n → mx_ok (f j)) ∧ n ≤ 2147483647 := h
theorem mj_alen {Y : mx_M} {kb wb pc : Nat} {ls : List (Option mx_V)} {st : List mx_V} {σ : mx_S} {Q : mx_R → Prop} {kd n a : Nat} {f : Nat → mx_V} (hd : decode Y.2.1 pc = .ok (.arraylength, 1)) (hc : sH σ a = some (.inr (kd, n, f)))
    (K : mx_J Y kb wb (pc + 1) ls (mI n :: st) σ Q) : mx_J Y kb wb pc ls (mR a :: st) σ Q := by
  intro G p l e R s m args below meth c H locs cells slots k0 w0 Qs lr C hk hw P hl ho D
  rcases P.2.1.2.2 a _ hc with hat | ⟨-, hkd, scr, g1, g2, g3, g4, g5, g6, g7⟩
  rotate_left
  · have hn : mx_ok (mI n) := ⟨by show -2147483648 ≤ (n : Int); omega, by have : n ≤ 2147483647 := g7; omega⟩
    refine W.alen (n := Int32.ofInt n) (ty := .int) C.1 C.2.1 g1 (mx_sc_arr P.1.2.2.2.2.2.2.2.2.2 g2 g4) (by rw [g5, arrV_size]; rfl) rfl rfl hd ?_
    exact K G p l e R s m args below meth c H locs cells slots k0 w0 Qs lr C hk hw P hl (mx_cons hn (mx_tl ho)) D
  obtain ⟨h1, h2, h3, h4⟩ := mx_arr hat
  have hn : mx_ok (mI n) := ⟨by omega, by omega⟩
  refine W.alen (n := Int32.ofInt n) (ty := mx_ty kd) C.1 C.2.1 h2 ((P.1.2.2.1 kd h1).1 _ _) (by rw [arrV_size]; rfl) rfl rfl hd ?_
  exact K G p l e R s m args below meth c H locs cells slots k0 w0 Qs lr C hk hw P hl (mx_cons hn (mx_tl ho)) D
theorem mj_iald {Y : mx_M} {kb wb pc : Nat} {ls : List (Option mx_V)} {st : List mx_V} {σ : mx_S} {Q : mx_R → Prop} {n a : Nat} {i : Int} {f : Nat → mx_V} (hd : decode Y.2.1 pc = .ok (.iaload, 1)) (hc : sH σ a = some (.inr (0, n, f))) (h0 : 0 ≤ i) (h1 : i < n)
    (K : mx_J Y kb wb (pc + 1) ls (f i.toNat :: st) σ Q) : mx_J Y kb wb pc ls (mI i :: mR a :: st) σ Q := by
  intro G p l e R s m args below meth c H locs cells slots k0 w0 Qs lr C hk hw P hl ho D
  have hi := mx_hd ho
  rcases P.2.1.2.2 a _ hc with hat | ⟨-, hkd, scr, g1, g2, g3, g4, g5, g6, g7⟩
  rotate_left
  · refine W.iald (v := mx_c (f i.toNat)) C.1 C.2.1 g1 (mx_sc_arr P.1.2.2.2.2.2.2.2.2.2 g2 g4) g3 (by rw [g5, arrV_size]; exact mx_in hi h0 h1) (by rw [mx_ix hi h0, g5, arrV_read _ _ (show i.toNat < n by omega)]) rfl rfl hd ?_
    exact K G p l e R s m args below meth c H locs cells slots k0 w0 Qs lr C hk hw P hl (mx_cons (g6 _ (show i.toNat < n by omega)) (mx_tl (mx_tl ho))) D
  obtain ⟨-, h2, h3, h4⟩ := mx_arr hat
  refine W.iald (v := mx_c (f i.toNat)) C.1 C.2.1 h2 ((P.1.2.2.1 0 (by decide)).1 _ _) (fun q => by cases q) (by rw [arrV_size]; exact mx_in hi h0 h1) (by rw [mx_ix hi h0, arrV_read _ _ (by omega)]) rfl rfl hd ?_
  exact K G p l e R s m args below meth c H locs cells slots k0 w0 Qs lr C hk hw P hl (mx_cons (h3 _ (by omega)) (mx_tl (mx_tl ho))) D
theorem mj_cald {Y : mx_M} {kb wb pc : Nat} {ls : List (Option mx_V)} {st : List mx_V} {σ : mx_S} {Q : mx_R → Prop} {n a : Nat} {i : Int} {f : Nat → mx_V} (hd : decode Y.2.1 pc = .ok (.caload, 1)) (hc : sH σ a = some (.inr (1, n, f))) (h0 : 0 ≤ i) (h1 : i < n)
    (K : mx_J Y kb wb (pc + 1) ls (f i.toNat :: st) σ Q) : mx_J Y kb wb pc ls (mI i :: mR a :: st) σ Q := by
  intro G p l e R s m args below meth c H locs cells slots k0 w0 Qs lr C hk hw P hl ho D
  obtain ⟨-, h2, h3, h4⟩ := mx_arr (mx_H_r P.2.1 hc (show (1 : Nat) ≠ 0 by decide))
  have hi := mx_hd ho
  refine W.cald (v := mx_c (f i.toNat)) C.1 C.2.1 h2 ((P.1.2.2.1 1 (by decide)).1 _ _) (fun q => by cases q) (by rw [arrV_size]; exact mx_in hi h0 h1) (by rw [mx_ix hi h0, arrV_read _ _ (by omega)]) rfl rfl hd ?_
  exact K G p l e R s m args below meth c H locs cells slots k0 w0 Qs lr C hk hw P hl (mx_cons (h3 _ (by omega)) (mx_tl (mx_tl ho))) D
theorem mj_aald {Y : mx_M} {kb wb pc : Nat} {ls : List (Option mx_V)} {st : List mx_V} {σ : mx_S} {Q : mx_R → Prop} {kd n a : Nat} {i : Int} {f : Nat → mx_V} (hd : decode Y.2.1 pc = .ok (.aaload, 1)) (hc : sH σ a = some (.inr (kd, n, f))) (hr : 2 ≤ kd) (h0 : 0 ≤ i) (h1 : i < n)
    (K : mx_J Y kb wb (pc + 1) ls (f i.toNat :: st) σ Q) : mx_J Y kb wb pc ls (mI i :: mR a :: st) σ Q := by
  intro G p l e R s m args below meth c H locs cells slots k0 w0 Qs lr C hk hw P hl ho D
  obtain ⟨h9, h2, h3, h4⟩ := mx_arr (mx_H_r P.2.1 hc (show kd ≠ 0 by omega))
  have hi := mx_hd ho
  have hty : (mx_ty kd).isReference = true := by
    rcases (show kd = 2 ∨ kd = 3 ∨ kd = 4 ∨ kd = 5 by omega) with h | h | h | h <;> subst h <;> rfl
  refine W.aald (v := mx_c (f i.toNat)) (ty := mx_ty kd) C.1 C.2.1 h2 ((P.1.2.2.1 kd h9).1 _ _) hty (fun q => by cases q) (by rw [arrV_size]; exact mx_in hi h0 h1) (by rw [mx_ix hi h0, arrV_read _ _ (by omega)]) rfl rfl hd ?_
  exact K G p l e R s m args below meth c H locs cells slots k0 w0 Qs lr C hk hw P hl (mx_cons (h3 _ (by omega)) (mx_tl (mx_tl ho))) D
theorem mx_at_up {G : mx_G} {kd n a k : Nat} {f : Nat → mx_V} {v : mx_V} {H H1 : Heap} (h : mx_at G (.inr (kd, n, f)) a H) (hv : mx_ok v) (h1 : H1[a]? = some ((arrV (G.2.1 kd) n (fun j => mx_c (f j))).setSlot k (mx_c v))) : mx_at G (.inr (kd, n, upV f k v)) a H1 := by
  obtain ⟨g1, g2, g3, g4⟩ := mx_arr h
  refine ⟨g1, ?_, fun j hj => ?_, g4⟩
  · rw [h1, arrV_store]
    congr 2
    funext j
    unfold updV upV
    by_cases e : j = k <;> simp [e]
  · show mx_ok (upV f k v j)
    unfold upV
    by_cases e : j = k
    · simp [e]; exact hv
    · simp [e]; exact g3 j hj
theorem mj_iast {Y : mx_M} {kb wb pc : Nat} {ls : List (Option mx_V)} {st : List mx_V} {σ : mx_S} {Q : mx_R → Prop} {n a : Nat} {i x : Int} {f : Nat → mx_V} (hd : decode Y.2.1 pc = .ok (.iastore, 1)) (hc : sH σ a = some (.inr (0, n, f))) (hb : sB σ ≤ a) (h0 : 0 ≤ i) (h1 : i < n)
    (K : mx_J Y kb wb (pc + 1) ls st (mx_wr σ a (.inr (0, n, upV f i.toNat (mI x)))) Q) : mx_J Y kb wb pc ls (mI x :: mI i :: mR a :: st) σ Q := by
  intro G p l e R s m args below meth c H locs cells slots k0 w0 Qs lr C hk hw P hl ho D
  have hat := mx_H_w P.2.1 hc hb
  obtain ⟨-, h2, h3, h4⟩ := mx_arr hat
  have hi := mx_hd (mx_tl ho)
  refine W.iast C.1 C.2.1 h2 ((P.1.2.2.1 0 (by decide)).1 _ _) (fun q => by cases q) (by rw [arrV_size]; exact mx_in hi h0 h1) rfl rfl hd (fun H1 e1 z oq => ?_)
  rw [mx_ix hi h0] at e1
  have hat1 := mx_at_up (v := mI x) hat (mx_hd ho) e1
  exact K G p l e R s m args below meth c H1 _ cells slots k0 w0 Qs lr C hk hw (mx_P_wr P (mx_H_wr P.2.1 hc z hat1 oq) (P.2.2.1.put z oq hb)) hl (mx_tl (mx_tl (mx_tl ho))) D
theorem mj_cast {Y : mx_M} {kb wb pc : Nat} {ls : List (Option mx_V)} {st : List mx_V} {σ : mx_S} {Q : mx_R → Prop} {n a : Nat} {i x : Int} {f : Nat → mx_V} (hd : decode Y.2.1 pc = .ok (.castore, 1)) (hc : sH σ a = some (.inr (1, n, f))) (hb : sB σ ≤ a) (h0 : 0 ≤ i) (h1 : i < n) (hx : narrow .char (.int (Int32.ofInt x)) = .int (Int32.ofInt x))
    (K : mx_J Y kb wb (pc + 1) ls st (mx_wr σ a (.inr (1, n, upV f i.toNat (mI x)))) Q) : mx_J Y kb wb pc ls (mI x :: mI i :: mR a :: st) σ Q := by
  intro G p l e R s m args below meth c H locs cells slots k0 w0 Qs lr C hk hw P hl ho D
  have hat := mx_H_w P.2.1 hc hb
  obtain ⟨-, h2, h3, h4⟩ := mx_arr hat
  have hi := mx_hd (mx_tl ho)
  refine W.cast C.1 C.2.1 h2 ((P.1.2.2.1 1 (by decide)).1 _ _) (fun q => by cases q) (by rw [arrV_size]; exact mx_in hi h0 h1) rfl rfl hd (fun H1 e1 z oq => ?_)
  rw [mx_ix hi h0, hx] at e1
  have hat1 := mx_at_up (v := mI x) hat (mx_hd ho) e1
  exact K G p l e R s m args below meth c H1 _ cells slots k0 w0 Qs lr C hk hw (mx_P_wr P (mx_H_wr P.2.1 hc z hat1 oq) (P.2.2.1.put z oq hb)) hl (mx_tl (mx_tl (mx_tl ho))) D
/-- a row (4) or a view (5) is put into an array of its class -/
theorem mj_aast {Y : mx_M} {kb wb pc : Nat} {ls : List (Option mx_V)} {st : List mx_V} {σ : mx_S} {Q : mx_R → Prop} {kd n a q ci : Nat} {i : Int} {f : Nat → mx_V} {fs : List mx_V} (hd : decode Y.2.1 pc = .ok (.aastore, 1)) (hc : sH σ a = some (.inr (kd, n, f))) (hb : sB σ ≤ a) (h0 : 0 ≤ i) (h1 : i < n) (hv : sH σ q = some (.inl (ci, fs))) (hk9 : (kd = 4 ∧ ci = 6) ∨ (kd = 5 ∧ ci = 9))
    (K : mx_J Y kb wb (pc + 1) ls st (mx_wr σ a (.inr (kd, n, upV f i.toNat (mR q)))) Q) : mx_J Y kb wb pc ls (mR q :: mI i :: mR a :: st) σ Q := by
  intro G p l e R s m args below meth c H locs cells slots k0 w0 Qs lr C hk hw P hl ho D
  have hat := mx_H_w P.2.1 hc hb
  obtain ⟨h6, h2, h3, h4⟩ := mx_arr hat
  have hi := mx_hd (mx_tl ho)
  have hvt := mx_H_o P.2.1 hv
  obtain ⟨r, hr, cellV, g1, g2, g3, -⟩ := hvt.obj 0 _ rfl
  have hcls := (P.1.2.1 ci r hr).2
  have hRA : ∃ (kA : Class) (comp : ClassId) (t : FieldType), s.vm.classes[G.2.1 kd]? = some kA ∧ kA.kind = .array comp t ∧ t.isReference = true ∧ comp = G.1.1 ci := by
    rcases hk9 with ⟨rfl, rfl⟩ | ⟨rfl, rfl⟩
    · obtain ⟨kA, comp, k1, k2, k3, -⟩ := (P.1.2.2.1 4 (by decide)).2
      refine ⟨kA, comp, _, k1, k2, rfl, Option.some.inj (k3.symm.trans ?_)⟩
      have e9 := hcls.1
      cases hr
      exact e9
    · obtain ⟨kA, comp, k1, k2, k3, -⟩ := (P.1.2.2.1 5 (by decide)).2
      refine ⟨kA, comp, _, k1, k2, rfl, Option.some.inj (k3.symm.trans ?_)⟩
      have e9 := hcls.1
      cases hr
      exact e9
  obtain ⟨kA, comp, t, k1, k2, k4, k3⟩ := hRA
  subst k3
  obtain ⟨kC, hkC, -⟩ := hcls.2
  refine W.aast C.1 C.2.1 h2 (fun q h => by cases h) (fun h => by cases h) k1 k2 k4 hkC ⟨fun z => by have := (mx_lt hi mx_ok0).mp z; omega, by rw [arrV_size, mx_ix hi h0]; omega⟩ g1 (fun q h => by rw [g3] at h; cases h) (by rw [g2]; exact hkC) (by rw [g2]; exact va_assign hcls) rfl rfl hd (fun H1 e1 z oq => ?_)
  rw [mx_ix hi h0] at e1
  have hat1 := mx_at_up (v := mR q) hat (mx_hd ho) e1
  exact K G p l e R s m args below meth c H1 _ cells slots k0 w0 Qs lr C hk hw (mx_P_wr P (mx_H_wr P.2.1 hc z hat1 oq) (P.2.2.1.put z oq hb)) hl (mx_tl (mx_tl (mx_tl ho))) D
/-! new cells -/
theorem mx_H_al {G : mx_G} {σ : mx_S} {H H1 : Heap} {e1 : mx_E} {w : Nat} (h : mx_H G σ H) (h1 : mx_at G e1 H.size H1) (hz : H1.size = H.size + 1) (oq : ∀ q : Nat, q < H.size → H1[q]? = H[q]?) : mx_H G (mx_al σ e1 w) H1 := by
  refine ⟨Nat.le_trans h.1 (by omega), by rw [hz, h.2.1]; rfl, fun q e2 hq => ?_⟩
  unfold mx_al at hq
  by_cases g : q = σ.2.2.1
  · simp [g] at hq
    subst hq
    rw [g, ← h.2.1]
    exact Or.inl h1
  · simp [g] at hq
    have h2 := h.2.2 q e2 hq
    exact mx_H_k h2 (oq q (mx_H_lt h2))
theorem mx_P_al {G : mx_G} {s : State} {kb wb k0 w0 cells slots : Nat} {σ : mx_S} {H H1 : Heap} {locs : List Loc} {e1 : mx_E} {w : Nat} (P : mx_P G s kb wb k0 w0 cells slots σ H locs) (h : mx_H G (mx_al σ e1 w) H1) (hkb : sK σ + 1 ≤ kb) (hwb : sW σ + w ≤ wb) (hz : H1.size = H.size + 1) (oq : ∀ q : Nat, q < H.size → H1[q]? = H[q]?) : mx_P G s kb wb k0 w0 (cells + 1) (slots + w) (mx_al σ e1 w) H1 locs := by
  obtain ⟨p1, p2, p3, p4, p5, p6, p7⟩ := P
  refine ⟨p1, h, ⟨Nat.le_trans p3.1 (by omega), fun x h1 h2 => (oq x (Nat.lt_of_lt_of_le h1 p3.1)).trans (p3.2.1 x h1 h2), p3.2.2⟩, ?_, ?_, hkb, hwb⟩
  · show cells + 1 + k0 = sK σ + 1
    omega
  · show slots + w + w0 = sW σ + w
    omega
/-- a new object of class ci -/
def mx_nf (Y : mx_M) (idx ci : Nat) (fs : List mx_V) : Prop := ∃ (C : String) (T : u_T) (N : Nat) (t0 : Nat → FieldType), vwCl[ci]? = some (C, T, N) ∧ fs.length = N ∧ (∀ w ∈ u_ws C T N, w ∈ mx_ws) ∧ (∀ k, k < N → parseFieldDescriptor (T k).2.2.1 = some (t0 k)) ∧
  Cond.classLink Y.1.cls idx C ∈ mx_ws ∧ Cond.instantiable C N ∈ mx_ws ∧ Cond.initialized C ∈ mx_ws ∧ (∀ j, j < N → defaultValue (t0 j) = vp_V (fs.map mx_c) j) ∧ ∀ v ∈ fs, mx_ok v
theorem mj_new {Y : mx_M} {kb wb pc : Nat} {ls : List (Option mx_V)} {st : List mx_V} {σ : mx_S} {Q : mx_R → Prop} {idx ci : Nat} {fs : List mx_V} (hd : decode Y.2.1 pc = .ok (.new idx, 3)) (hf : mx_nf Y idx ci fs) (hkb : sK σ + 1 ≤ kb) (hwb : sW σ + fs.length ≤ wb)
    (K : mx_J Y kb wb (pc + 3) ls (mR (sN σ) :: st) (mx_al σ (.inl (ci, fs)) fs.length) Q) : mx_J Y kb wb pc ls st σ Q := by
  intro G p l e R s m args below meth c H locs cells slots k0 w0 Qs lr C hk hw P hl ho D
  obtain ⟨C9, T, N, t0, h1, h2, h3, h4, h5, h6, h7, h8, h9⟩ := hf
  subst h2
  have hKn := P.1.2.1 ci _ h1
  have hcl := P.2.2.2.1
  have hsl := P.2.2.2.2.1
  refine W.newcK C.1 C.2.1 C.2.2.2.1 (C.2.2.2.2.1 _ h5) (C.2.2.2.2.1 _ h6) (C.2.2.2.2.1 _ h7) rfl hd (by omega) (by omega) hKn.2.1 rfl fun H1 kC hkC e1 z1 o1 => ?_
  have hat1 : mx_at G (.inl (ci, fs)) H.size H1 := ⟨⟨_, h1, (u_born t0 C.2.2.2.2.1 h3 hKn hkC e1 h4).to h8⟩, h9⟩
  have k := K G p l e R s m args below meth c H1 locs (cells + 1) (slots + fs.length) k0 w0 Qs lr C hk hw (mx_P_al P (mx_H_al P.2.1 hat1 z1 o1) hkb hwb z1 o1) hl (mx_cons trivial ho) D
  rw [List.map_cons, show mx_c (mR (sN σ)) = .ref H.size by rw [P.2.1.2.1]; rfl] at k
  exact k
/-- a new row of numbers (kind 0: int, 1: char) -/
theorem mj_newa {Y : mx_M} {kb wb pc : Nat} {ls : List (Option mx_V)} {st : List mx_V} {σ : mx_S} {Q : mx_R → Prop} {kd : Nat} {n : Int} {at9 : ArrayType} (hd : decode Y.2.1 pc = .ok (.newarray at9, 2)) (hk9 : (kd = 0 ∧ at9 = .int) ∨ (kd = 1 ∧ at9 = .char)) (hw9 : Cond.arrayClass (mx_ty kd) ∈ mx_ws) (h0 : 0 ≤ n) (hn : n ≤ 134217728) (hkb : sK σ + 1 ≤ kb) (hwb : sW σ + n.toNat ≤ wb)
    (K : mx_J Y kb wb (pc + 2) ls (mR (sN σ) :: st) (mx_al σ (.inr (kd, n.toNat, fun _ => mI 0)) n.toNat) Q) : mx_J Y kb wb pc ls (mI n :: st) σ Q := by
  intro G p l e R s m args below meth c H locs cells slots k0 w0 Qs lr C hk hw P hl ho D
  have hi := mx_hd ho
  have hcl := P.2.2.2.1
  have hsl := P.2.2.2.2.1
  have hn0 : ¬ Int32.ofInt n < 0 := fun z => by have := (mx_lt hi mx_ok0).mp z; omega
  rcases hk9 with ⟨rfl, rfl⟩ | ⟨rfl, rfl⟩
  · refine va_newaK C.1 C.2.1 (atype := .int) (C.2.2.2.2.1 _ hw9) rfl hd rfl hn0 (mx_ix hi h0) (by show n.toNat * 4 ≤ _; omega) (by omega) (by omega) rfl fun H1 cA e1 z1 o1 hAr hNm => ?_
    have hA : cA = G.2.1 0 := Option.some.inj (hNm.symm.trans (P.1.2.2.1 0 (by decide)).2)
    subst hA
    have hat1 : mx_at G (.inr (0, n.toNat, fun _ => mI 0)) H.size H1 := ⟨Nat.le_of_ble_eq_true rfl, e1, fun _ _ => mx_ok0, by show n.toNat ≤ 2147483647; omega⟩
    have k := K G p l e R s m args below meth c H1 locs (cells + 1) (slots + n.toNat) k0 w0 Qs lr C hk hw (mx_P_al P (mx_H_al P.2.1 hat1 z1 o1) hkb hwb z1 o1) hl (mx_cons trivial (mx_tl ho)) D
    rw [List.map_cons, show mx_c (mR (sN σ)) = .ref H.size by rw [P.2.1.2.1]; rfl] at k
    exact k
  · refine va_newaK C.1 C.2.1 (atype := .char) (C.2.2.2.2.1 _ hw9) rfl hd rfl hn0 (mx_ix hi h0) (by show n.toNat * 2 ≤ _; omega) (by omega) (by omega) rfl fun H1 cA e1 z1 o1 hAr hNm => ?_
    have hA : cA = G.2.1 1 := Option.some.inj (hNm.symm.trans (P.1.2.2.1 1 (by decide)).2)
    subst hA
    have hat1 : mx_at G (.inr (1, n.toNat, fun _ => mI 0)) H.size H1 := ⟨Nat.le_of_ble_eq_true rfl, e1, fun _ _ => mx_ok0, by show n.toNat ≤ 2147483647; omega⟩
    have k := K G p l e R s m args below meth c H1 locs (cells + 1) (slots + n.toNat) k0 w0 Qs lr C hk hw (mx_P_al P (mx_H_al P.2.1 hat1 z1 o1) hkb hwb z1 o1) hl (mx_cons trivial (mx_tl ho)) D
    rw [List.map_cons, show mx_c (mR (sN σ)) = .ref H.size by rw [P.2.1.2.1]; rfl] at k
    exact k
/-- a new row of rows (kind 4) or views (kind 5) -/
theorem mj_anew {Y : mx_M} {kb wb pc : Nat} {ls : List (Option mx_V)} {st : List mx_V} {σ : mx_S} {Q : mx_R → Prop} {kd idx : Nat} {n : Int} {C9 : String} (hd : decode Y.2.1 pc = .ok (.anewarray idx, 3)) (hk9 : (kd = 4 ∧ C9 = "Suffixhall$Row") ∨ (kd = 5 ∧ C9 = "Suffixhall$View")) (hw9 : Cond.classLink Y.1.cls idx C9 ∈ mx_ws) (h0 : 0 ≤ n) (hn : n ≤ 134217728) (hkb : sK σ + 1 ≤ kb) (hwb : sW σ + n.toNat ≤ wb)
    (K : mx_J Y kb wb (pc + 3) ls (mR (sN σ) :: st) (mx_al σ (.inr (kd, n.toNat, fun _ => mN)) n.toNat) Q) : mx_J Y kb wb pc ls (mI n :: st) σ Q := by
  intro G p l e R s m args below meth c H locs cells slots k0 w0 Qs lr C hk hw P hl ho D
  have hi := mx_hd ho
  have hcl := P.2.2.2.1
  have hsl := P.2.2.2.2.1
  have hn0 : ¬ Int32.ofInt n < 0 := fun z => by have := (mx_lt hi mx_ok0).mp z; omega
  have hAO : va_AO C9 s := by
    rcases hk9 with ⟨-, rfl⟩ | ⟨-, rfl⟩
    · exact P.1.2.2.2.2.2.2.2.2.1 _ (by decide)
    · exact P.1.2.2.2.2.2.2.2.2.1 _ (by decide)
  have hN := mx_ix hi h0
  refine W.anew C.1 C.2.1 C.2.2.2.1 (C.2.2.2.2.1 _ hw9) hAO.use rfl hd rfl hn0 (by rw [hN]; omega) (by omega) (by rw [hN]; omega) fun cA kA comp f1 f2 f3 f4 => ?_
  have hA : kd < 6 ∧ cA = G.2.1 kd := by
    rcases hk9 with ⟨rfl, rfl⟩ | ⟨rfl, rfl⟩
    · obtain ⟨-, -, -, -, -, h9⟩ := (P.1.2.2.1 4 (by decide)).2
      exact ⟨by decide, Option.some.inj (f1.symm.trans h9)⟩
    · obtain ⟨-, -, -, -, -, h9⟩ := (P.1.2.2.1 5 (by decide)).2
      exact ⟨by decide, Option.some.inj (f1.symm.trans h9)⟩
  obtain ⟨hk6, hA⟩ := hA
  subst hA
  rw [hN, arrV_new]
  have z1 : (H.push (arrV (G.2.1 kd) n.toNat fun _ => .null)).size = H.size + 1 := by simp
  have o1 : ∀ q : Nat, q < H.size → (H.push (arrV (G.2.1 kd) n.toNat fun _ => .null))[q]? = H[q]? := fun q hq => by rw [Array.getElem?_push, if_neg (Nat.ne_of_lt hq)]
  have hat1 : mx_at G (.inr (kd, n.toNat, fun _ => mN)) H.size (H.push (arrV (G.2.1 kd) n.toNat fun _ => .null)) := ⟨hk6, by simp [mx_c], fun _ _ => trivial, by show n.toNat ≤ 2147483647; omega⟩
  have k := K G p l e R s m args below meth c _ locs (cells + 1) (slots + n.toNat) k0 w0 Qs lr C hk hw (mx_P_al P (mx_H_al P.2.1 hat1 z1 o1) hkb hwb z1 o1) hl (mx_cons trivial (mx_tl ho)) D
  rw [List.map_cons, show mx_c (mR (sN σ)) = .ref H.size by rw [P.2.1.2.1]; rfl] at k
  exact k
