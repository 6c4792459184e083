/-! Rows that the walks want besides: less is known of the locals; references that may be null; arrays of arrays. -/
def mx_sub : List (Option mx_V) → List (Option mx_V) → Prop
  | [], [] => True
  | none :: t, _ :: u => mx_sub t u
  | some v :: t, w :: u => some v = w ∧ mx_sub t u
  | _, _ => False
theorem mx_sub_len : ∀ {a b : List (Option mx_V)}, mx_sub a b → a.length = b.length
  | [], [], _ => rfl
  | none :: t, _ :: u, h => by simp [mx_sub_len (a := t) (b := u) h]
  | some v :: t, w :: u, h => by simp [mx_sub_len (a := t) (b := u) h.2]
  | [], _ :: _, h => h.elim
  | none :: _, [], h => h.elim
  | some _ :: _, [], h => h.elim
theorem mx_sub_at : ∀ {a b : List (Option mx_V)}, mx_sub a b → ∀ (k : Nat) (v : mx_V), a[k]? = some (some v) → b[k]? = some (some v)
  | [], [], _, k, v, h => by simp at h
  | none :: t, _ :: u, g, 0, v, h => by simp at h
  | none :: t, _ :: u, g, k + 1, v, h => by simpa using mx_sub_at (a := t) (b := u) g k v (by simpa using h)
  | some x :: t, w :: u, g, 0, v, h => by simpa [← g.1] using h
  | some x :: t, w :: u, g, k + 1, v, h => by simpa using mx_sub_at (a := t) (b := u) g.2 k v (by simpa using h)
  | [], _ :: _, g, _, _, _ => g.elim
  | none :: _, [], g, _, _, _ => g.elim
  | some _ :: _, [], g, _, _, _ => g.elim
theorem mj_forget {Y : mx_M} {kb wb pc : Nat} {ls ls' : List (Option mx_V)} {st : List mx_V} {σ : mx_S} {Q : mx_R → Prop} (h : mx_sub ls' ls) (K : mx_J Y kb wb pc ls' st σ Q) : mx_J Y kb wb pc ls st σ Q := by
  intro G p l e R s m args below meth c H locs cells slots k0 w0 Qs lr C hk hw P hl ho D
  exact K G p l e R s m args below meth c H locs cells slots k0 w0 Qs lr C hk hw P ⟨(mx_sub_len h).trans hl.1, hl.2.1, hl.2.2.1, fun k v hk9 => hl.2.2.2 k v (mx_sub_at h k v hk9)⟩ ho D
/-- what was made so far is within the bounds -/
theorem mj_bud {Y : mx_M} {kb wb pc : Nat} {ls : List (Option mx_V)} {st : List mx_V} {σ : mx_S} {Q : mx_R → Prop} (K : sK σ ≤ kb → sW σ ≤ wb → mx_J Y kb wb pc ls st σ Q) : mx_J Y kb wb pc ls st σ Q := by
  intro G p l e R s m args below meth c H locs cells slots k0 w0 Qs lr C hk hw P hl ho D
  exact K P.2.2.2.2.2.1 P.2.2.2.2.2.2 G p l e R s m args below meth c H locs cells slots k0 w0 Qs lr C hk hw P hl ho D
/-- integers on the stack and in the locals are in range -/
theorem mj_oks {Y : mx_M} {kb wb pc : Nat} {ls : List (Option mx_V)} {st : List mx_V} {σ : mx_S} {Q : mx_R → Prop} (K : (∀ v ∈ st, mx_ok v) → (∀ (k : Nat) (v : mx_V), ls[k]? = some (some v) → mx_ok v) → mx_J Y kb wb pc ls st σ Q) : mx_J Y kb wb pc ls st σ Q := by
  intro G p l e R s m args below meth c H locs cells slots k0 w0 Qs lr C hk hw P hl ho D
  exact K ho (fun k v hk9 => (hl.2.2.2 k v hk9).2) G p l e R s m args below meth c H locs cells slots k0 w0 Qs lr C hk hw P hl ho D
theorem mj_aloadO_n {Y : mx_M} {kb wb pc : Nat} {ls : List (Option mx_V)} {st : List mx_V} {σ : mx_S} {Q : mx_R → Prop} {f : Fin 4} {k : Nat} {o : Option Nat} (hd : decode Y.2.1 pc = .ok (.aload_n f, 1)) (hf : (f : Nat) = k) (hx : ls[k]? = some (some (Sum.inr (Sum.inl o)))) (K : mx_J Y kb wb (pc + 1) ls (Sum.inr (Sum.inl o) :: st) σ Q) : mx_J Y kb wb pc ls st σ Q := by
  cases o with
  | none => exact mj_aloadN_n hd hf hx K
  | some a => exact mj_aload_n hd hf hx K
theorem mj_aloadO {Y : mx_M} {kb wb pc : Nat} {ls : List (Option mx_V)} {st : List mx_V} {σ : mx_S} {Q : mx_R → Prop} {k : Nat} {o : Option Nat} (hd : decode Y.2.1 pc = .ok (.aload k, 2)) (hx : ls[k]? = some (some (Sum.inr (Sum.inl o)))) (K : mx_J Y kb wb (pc + 2) ls (Sum.inr (Sum.inl o) :: st) σ Q) : mx_J Y kb wb pc ls st σ Q := by
  cases o with
  | none => exact mj_aloadN hd hx K
  | some a => exact mj_aload hd hx K
theorem mj_astoreO_n {Y : mx_M} {kb wb pc : Nat} {ls ls' : List (Option mx_V)} {st : List mx_V} {σ : mx_S} {Q : mx_R → Prop} {f : Fin 4} {k : Nat} {o : Option Nat} (hd : decode Y.2.1 pc = .ok (.astore_n f, 1)) (hf : (f : Nat) = k) (hn : k < Y.2.2.1) (hs : mx_s1 ls k (Sum.inr (Sum.inl o)) = ls') (K : mx_J Y kb wb (pc + 1) ls' st σ Q) : mx_J Y kb wb pc ls (Sum.inr (Sum.inl o) :: st) σ Q := by
  cases o with
  | none =>
    intro G p l e R s m args below meth c H locs cells slots k0 w0 Qs lr C hk hw P hl ho D
    subst hs
    exact lv_astore_nN C.1 C.2.1 hd hf hl.has hn rfl (fun lr' h' => K G p l e R s m args below meth c H locs cells slots k0 w0 Qs lr' C hk hw P (hl.s1 (mx_hd ho) h') (mx_tl ho) D)
  | some a => exact mj_astore_n hd hf hn hs K
theorem mj_astoreO {Y : mx_M} {kb wb pc : Nat} {ls ls' : List (Option mx_V)} {st : List mx_V} {σ : mx_S} {Q : mx_R → Prop} {k : Nat} {o : Option Nat} (hd : decode Y.2.1 pc = .ok (.astore k, 2)) (hn : k < Y.2.2.1) (hs : mx_s1 ls k (Sum.inr (Sum.inl o)) = ls') (K : mx_J Y kb wb (pc + 2) ls' st σ Q) : mx_J Y kb wb pc ls (Sum.inr (Sum.inl o) :: st) σ Q := by
  cases o with
  | none =>
    intro G p l e R s m args below meth c H locs cells slots k0 w0 Qs lr C hk hw P hl ho D
    subst hs
    exact lv_astoreN C.1 C.2.1 hd hl.has hn rfl (fun lr' h' => K G p l e R s m args below meth c H locs cells slots k0 w0 Qs lr' C hk hw P (hl.s1 (mx_hd ho) h') (mx_tl ho) D)
  | some a => exact mj_astore hd hn hs K
theorem mx_i32 {x : Int} (h0 : 0 ≤ x) (h1 : x ≤ 65535) : Int32.ofInt x = nI x.toNat := by
  show Int32.ofInt x = Int32.ofNat x.toNat
  rw [← Int32.ofInt_eq_ofNat, Int.toNat_of_nonneg h0]
theorem mx_nch {x : Int} (h0 : 0 ≤ x) (h1 : x ≤ 65535) : narrow .char (.int (Int32.ofInt x)) = .int (Int32.ofInt x) := by
  rw [mx_i32 h0 h1]
  exact (pk_charN (show x.toNat < 65536 by omega)).1
theorem mx_fch {x : Int} (h0 : 0 ≤ x) (h1 : x ≤ 65535) : fits .char (.int (Int32.ofInt x)) = true := by
  rw [mx_i32 h0 h1]
  exact (pk_charN (show x.toNat < 65536 by omega)).2
theorem mx_nbo {x : Int} (h0 : 0 ≤ x) (h1 : x ≤ 1) : narrow .boolean (.int (Int32.ofInt x)) = .int (Int32.ofInt x) := by
  rcases (show x = 0 ∨ x = 1 by omega) with h | h <;> subst h <;> decide
/-- k new cells of w slots, of which nothing is said -/
def mx_alm (σ : mx_S) (k w : Nat) : mx_S := (σ.1, σ.2.1, σ.2.2.1 + k, σ.2.2.2.1 + k, σ.2.2.2.2 + w)
theorem mj_mna {Y : mx_M} {kb wb pc : Nat} {ls : List (Option mx_V)} {st : List mx_V} {σ : mx_S} {Q : mx_R → Prop} {idx : Nat} {n k : Int} (hd : decode Y.2.1 pc = .ok (.multianewarray idx 2, 4)) (w1 : Cond.classLink Y.1.cls idx "[[I" ∈ mx_ws) (w2 : Cond.arrayClass .int ∈ mx_ws) (h0 : 0 ≤ n) (h1 : 0 ≤ k) (h2 : n ≤ 1000) (h3 : k ≤ 1000) (hkb : sK σ + (1 + n.toNat) ≤ kb) (hwb : sW σ + (n.toNat + n.toNat * k.toNat) ≤ wb)
    (K : mx_J Y kb wb (pc + 4) ls (mR (sN σ) :: st) (mx_alm σ (1 + n.toNat) (n.toNat + n.toNat * k.toNat)) Q) : mx_J Y kb wb pc ls (mI k :: mI n :: st) σ Q := by
  intro G p l e R s m args below meth c H locs cells slots k0 w0 Qs lr C hk hw P hl ho D
  have ok := mx_hd ho
  have on := mx_hd (mx_tl ho)
  have hcl := P.2.2.2.1
  have hsl := P.2.2.2.2.1
  have nn : ¬ Int32.ofInt n < 0 := fun z => by have := (mx_lt on mx_ok0).mp z; omega
  have nk : ¬ Int32.ofInt k < 0 := fun z => by have := (mx_lt ok mx_ok0).mp z; omega
  have en := mx_ix on h0
  have ek := mx_ix ok h1
  intro T hT X
  obtain ⟨vm₁, cA, comp, -, fA, fC, hO, -, X', step⟩ := X.multianewarray2F (ty := .int) C.1 C.2.2.2.1 (C.2.2.2.2.1 _ w1) (P.1.2.2.2.2.2.2.2.2.1 (.array .int) (by decide)) (C.2.2.2.2.1 _ w2) (g := F0 m pc lr ((mI k :: mI n :: st).map mx_c)) rfl (by rw [C.2.1]; exact hd) rfl nn nk (by rw [en]; omega) (by rw [ek]; show k.toNat * 4 ≤ _; omega) (by rw [ek]; omega) rfl rfl (by rw [en]; omega) (by rw [en, ek]; omega)
  rw [en, ek] at X' step
  generalize hF : Jvm.Free.Multi.fill (T.setVm vm₁) cA comp n.toNat k.toNat (defaultValue .int) n.toNat = F at X' step
  have hTh : (T.setVm vm₁).heap = H := hT
  obtain ⟨f1, f2, -, -⟩ := Jvm.Free.Multi.fill_facts (T.setVm vm₁) cA comp n.toNat k.toNat (defaultValue .int) n.toNat
  rw [hF, hTh] at f1 f2
  have hold : ∀ x : Nat, x < H.size → F.heap[x]? = H[x]? := fun x hx => by
    have := Jvm.Free.Multi.fill_old (T.setVm vm₁) cA comp n.toNat k.toNat (defaultValue .int) (a := x) (by rw [hTh]; exact hx) n.toNat
    rw [hF, hTh] at this
    exact this
  obtain ⟨p1, p2, p3, p4, p5, p6, p7⟩ := P
  have hz : F.heap.size = H.size + (1 + n.toNat) := by rw [f1]; omega
  have P' : mx_P G s kb wb k0 w0 (cells + 1 + n.toNat) (slots + n.toNat + n.toNat * k.toNat) (mx_alm σ (1 + n.toNat) (n.toNat + n.toNat * k.toNat)) F.heap locs := by
    refine ⟨p1, ⟨Nat.le_trans p2.1 (by omega), by rw [hz, p2.2.1]; rfl, fun a e2 ha => ?_⟩, ⟨Nat.le_trans p3.1 (by omega), fun x g1 g2 => (hold x (Nat.lt_of_lt_of_le g1 p3.1)).trans (p3.2.1 x g1 g2), p3.2.2⟩, ?_, ?_, hkb, hwb⟩
    · have h9 := p2.2.2 a e2 ha
      exact mx_H_k h9 (hold a (mx_H_lt h9))
    · show cells + 1 + n.toNat + k0 = sK σ + (1 + n.toNat)
      omega
    · show slots + n.toNat + n.toNat * k.toNat + w0 = sW σ + (n.toNat + n.toNat * k.toNat)
      omega
  obtain ⟨t, a1, b1⟩ := K G p l e R s m args below meth c F.heap locs _ _ k0 w0 Qs lr C hk hw P' hl (mx_cons trivial (mx_tl (mx_tl ho))) D F rfl X'
  refine ⟨t, step t ?_, b1⟩
  have e9 : mx_c (mR (sN σ)) = .ref T.heap.size := by rw [hT, p2.2.1]; rfl
  rw [List.map_cons, e9] at a1
  exact a1
