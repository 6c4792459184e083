/-! The judgement mx_J: a frame of a method over a heap of abstract cells (integers as Int), at launches without stack traces. -/
abbrev mx_V : Type := Int ⊕ (Option Nat ⊕ (Int ⊕ (UInt32 ⊕ UInt64)))
abbrev mI (x : Int) : mx_V := Sum.inl x
abbrev mR (a : Nat) : mx_V := Sum.inr (Sum.inl (some a))
abbrev mN : mx_V := Sum.inr (Sum.inl none)
abbrev mL (x : Int) : mx_V := Sum.inr (Sum.inr (Sum.inl x))
abbrev mF (x : UInt32) : mx_V := Sum.inr (Sum.inr (Sum.inr (Sum.inl x)))
abbrev mD (x : UInt64) : mx_V := Sum.inr (Sum.inr (Sum.inr (Sum.inr x)))
/-- the machine's value -/
def mx_c : mx_V → Value
  | .inl x => .int (Int32.ofInt x)
  | .inr (.inl none) => .null
  | .inr (.inl (some a)) => .ref a
  | .inr (.inr (.inl x)) => .long (Int64.ofInt x)
  | .inr (.inr (.inr (.inl x))) => .float x
  | .inr (.inr (.inr (.inr x))) => .double x
/-- in range -/
def mx_ok : mx_V → Prop
  | .inl x => -2147483648 ≤ x ∧ x ≤ 2147483647
  | .inr (.inr (.inl x)) => -9223372036854775808 ≤ x ∧ x ≤ 9223372036854775807
  | _ => True
abbrev mx_E : Type := (Nat × List mx_V) ⊕ (Nat × Nat × (Nat → mx_V))
/-- the first address that may be written; the cells; the next address; the cells and slots made -/
abbrev mx_S : Type := Nat × (Nat → Option mx_E) × Nat × Nat × Nat
abbrev mx_R : Type := (Option mx_V × mx_S) ⊕ (String × mx_S)
/-- a method: name, bytes, locals, what it returns, frames and words of room, its handlers -/
abbrev mx_M : Type := MethodName × ByteArray × Nat × Option FieldType × Nat × Nat × List (Nat × Nat × Nat × Nat)
abbrev mx_G : Type := va_G × (Nat → ClassId) × (Nat → Nat)
def mx_ty : Nat → FieldType
  | 0 => .int
  | 1 => .char
  | 2 => .array .int
  | 3 => .array .char
  | 4 => .object "Suffixhall$Row"
  | _ => .object "Suffixhall$View"
def mx_ws : List Cond := lw_tbl.filter goodWord
/-- words that hold on in a warmed table, though not every word of their kind is kept by form -/
def mx_bad : Cond → Bool
  | .methodLinkNest .. => true
  | .castable .. => true
  | .declares .. => true
  | _ => false
def mx_nw : List Cond := lw_tbl.filter mx_bad
abbrev mx_A (b : Nat) : Nat → Prop := fun q => b ≤ q
theorem mx_bad_ot {w : Cond} (h : mx_bad w = true) : w.onTables = true := by
  cases w <;> first | rfl | (cases h)
theorem mx_bad_warm {w : Cond} (h : mx_bad w = true) {s U : State} (hW : s.WarmedH U.vm) (hz : va_Nw w s) : va_Nw w U := by
  cases w <;> first | (cases h; done) | exact va_Nw.warmM hW hz | exact va_Nw.warmC hW hz | exact va_Nw.warmD hW hz
def mx_ao : List FieldType := [.object "Suffixhall$Row", .object "Suffixhall$View", .array .int, .array .char]
def mx_ov (t : FieldType) (U : State) : Prop := (Cond.arrayOver t).before #[] U = true
theorem mx_ov.moved {t : FieldType} {u U : State} (h : u.vm.Alike U.vm) (hz : mx_ov t u) : mx_ov t U := by
  have e := Cond.arrayOver_setVmC (args := #[]) (s := u) h t
  have h1 : (Cond.arrayOver t).before #[] (u.setVm U.vm) = (Cond.arrayOver t).before #[] U := rfl
  rw [h1] at e
  unfold mx_ov
  rw [e]
  exact hz
/-- what is known of the tables, the statics, the strings -/
def mx_W (G : mx_G) (b : Nat) (U : State) (H : Heap) : Prop :=
  b ≤ H.size ∧ (∀ (c : Nat) (q : vw_C), vwCl[c]? = some q → u_Kn U q.1 q.2.1 q.2.2 (G.1.1 c) (G.1.2 c)) ∧
  (∀ k : Nat, k < 6 → ArrOfT U (G.2.1 k) (mx_ty k) ∧ va_RA U (G.2.1 k) (mx_ty k)) ∧
  vx_Zq Bundle.tN "UNASSIGNED_STACK" Bundle.steD (mx_A b) U H ∧ vx_Zq Bundle.tN "SUPPRESSED_SENTINEL" Bundle.listD (mx_A b) U H ∧
  (∀ (i : Nat) (q : String × Nat × String), mx_str[i]? = some q → vk_R q.1 q.2.1 q.2.2 (G.2.2 i) U) ∧
  (∀ w ∈ mx_nw, va_Nw w U) ∧ (∀ q ∈ mx_nc, va_Nc q.1 q.2 U) ∧ (∀ t ∈ mx_ao, mx_ov t U) ∧ ArrOfT U (G.2.1 6) .int
theorem mx_W.warm {G : mx_G} {b : Nat} {s U : State} {H : Heap} (h : mx_W G b s H) (hW : s.WarmedH U.vm) : mx_W G b U H := by
  obtain ⟨h0, h1, h2, h3, h4, h5, h6, h7, h8, h9⟩ := h
  exact ⟨h0, fun c q hq => u_Kn_moved hW.alike (h1 c q hq), fun k hk => ⟨arrOfT_moved hW.alike (h2 k hk).1, (h2 k hk).2.moved hW.alike⟩, vx_Zq.moved hW.alike h3, vx_Zq.moved hW.alike h4,
    fun i q hq => vk_R.warm hW (h5 i q hq), fun w hw => mx_bad_warm (List.mem_filter.mp hw).2 hW (h6 w hw), fun q hq => (h7 q hq).moved hW.alike, fun t ht => (h8 t ht).moved hW.alike, arrOfT_moved hW.alike h9⟩
theorem mx_W.same {G : mx_G} {b : Nat} {s U : State} {H : Heap} (h : mx_W G b s H) (hv : U.vm = s.vm) : mx_W G b U H := by
  obtain ⟨h0, h1, h2, h3, h4, h5, h6, h7, h8, h9⟩ := h
  have hA : s.vm.Alike U.vm := by rw [hv]; exact Vm.Alike.refl _
  exact ⟨h0, fun c q hq => u_Kn_moved hA (h1 c q hq), fun k hk => ⟨arrOfT_moved hA (h2 k hk).1, (h2 k hk).2.moved hA⟩, vx_Zq.moved hA h3, vx_Zq.moved hA h4,
    fun i q hq => vk_R.same hv (h5 i q hq), fun w hw => va_Nw.same (mx_bad_ot (List.mem_filter.mp hw).2) hv.symm (h6 w hw), fun q hq => (h7 q hq).moved hA, fun t ht => (h8 t ht).moved hA, arrOfT_moved hA h9⟩
theorem mx_W.kept {G : mx_G} {b : Nat} {s : State} {H H1 : Heap} (h : mx_W G b s H) (hb : H.size ≤ H1.size) (hq : ∀ q : Nat, q < H.size → ¬ b ≤ q → H1[q]? = H[q]?) : mx_W G b s H1 := by
  obtain ⟨h0, h1, h2, h3, h4, h5⟩ := h
  exact ⟨Nat.le_trans h0 hb, h1, h2, h3.kept hq, h4.kept hq, h5⟩
/-- a cell -/
def mx_at (G : mx_G) (e : mx_E) (a : Nat) (H : Heap) : Prop := match e with
  | .inl o => va_at G.1 vwCl (a, .inr (o.1, o.2.map mx_c)) H ∧ ∀ v ∈ o.2, mx_ok v
  | .inr r => r.1 < 6 ∧ H[a]? = some (arrV (G.2.1 r.1) r.2.1 (fun j => mx_c (r.2.2 j))) ∧ (∀ j : Nat, j < r.2.1 → mx_ok (r.2.2 j)) ∧ r.2.1 ≤ 2147483647
/-- a cell that was there before the run: an array of ints, of whatever class -/
def mx_sc (G : mx_G) (e : mx_E) (a : Nat) (H : Heap) : Prop := match e with
  | .inl _ => False
  | .inr r => r.1 = 0 ∧ ∃ scr : Cell, H[a]? = some scr ∧ (∀ k, scr.vm ≠ .statics k) ∧ scr.vm ≠ .unknown ∧ scr.cls = G.2.1 6 ∧ scr.slots = (arrV (G.2.1 0) r.2.1 (fun j => mx_c (r.2.2 j))).slots ∧ (∀ j : Nat, j < r.2.1 → mx_ok (r.2.2 j)) ∧ r.2.1 ≤ 2147483647
def mx_H (G : mx_G) (σ : mx_S) (H : Heap) : Prop := σ.1 ≤ H.size ∧ H.size = σ.2.2.1 ∧ ∀ (a : Nat) (e : mx_E), σ.2.1 a = some e → mx_at G e a H ∨ (a < σ.1 ∧ mx_sc G e a H)
theorem mx_H_o {G : mx_G} {σ : mx_S} {H : Heap} {a : Nat} {o : Nat × List mx_V} (h : mx_H G σ H) (hc : σ.2.1 a = some (.inl o)) : mx_at G (.inl o) a H := (h.2.2 a _ hc).elim id (fun q => q.2.elim)
theorem mx_H_r {G : mx_G} {σ : mx_S} {H : Heap} {a : Nat} {r : Nat × Nat × (Nat → mx_V)} (h : mx_H G σ H) (hc : σ.2.1 a = some (.inr r)) (hk : r.1 ≠ 0) : mx_at G (.inr r) a H := (h.2.2 a _ hc).elim id (fun q => absurd q.2.1 hk)
theorem mx_H_w {G : mx_G} {σ : mx_S} {H : Heap} {a : Nat} {e : mx_E} (h : mx_H G σ H) (hc : σ.2.1 a = some e) (hb : σ.1 ≤ a) : mx_at G e a H := (h.2.2 a _ hc).elim id (fun q => absurd hb (Nat.not_le_of_lt q.1))
theorem mx_H_k {G : mx_G} {b : Nat} {H H1 : Heap} {a : Nat} {e : mx_E} (h : mx_at G e a H ∨ (a < b ∧ mx_sc G e a H)) (hq : H1[a]? = H[a]?) : mx_at G e a H1 ∨ (a < b ∧ mx_sc G e a H1) := by
  rcases h with h2 | ⟨h1, h2⟩
  · left
    cases e with
    | inl o => exact ⟨h2.1.kept hq, h2.2⟩
    | inr r => exact ⟨h2.1, by rw [hq]; exact h2.2.1, h2.2.2⟩
  · right
    refine ⟨h1, ?_⟩
    cases e with
    | inl o => exact h2
    | inr r =>
      obtain ⟨g1, scr, g2, g3⟩ := h2
      exact ⟨g1, scr, hq.trans g2, g3⟩
theorem mx_H_lt {G : mx_G} {b : Nat} {H : Heap} {a : Nat} {e : mx_E} (h : mx_at G e a H ∨ (a < b ∧ mx_sc G e a H)) : a < H.size := by
  rcases h with h2 | ⟨h1, h2⟩
  · cases e with
    | inl o => exact h2.1.lt
    | inr r => exact (Array.getElem?_eq_some_iff.mp h2.2.1).1
  · cases e with
    | inl o => exact h2.elim
    | inr r =>
      obtain ⟨g1, scr, g2, g3⟩ := h2
      exact (Array.getElem?_eq_some_iff.mp g2).1
theorem mx_sc_arr {G : mx_G} {U : State} {scr : Cell} (h : ArrOfT U (G.2.1 6) .int) (h1 : ∀ k, scr.vm ≠ .statics k) (h2 : scr.cls = G.2.1 6) : U.isArrayOf scr .int := ⟨h1, by rw [h2]; exact (h 0 (fun _ => .null)).2⟩
/-- the locals -/
def mx_l (n : Nat) (ls : List (Option mx_V)) (lr : Array Slot) : Prop := ls.length = n ∧ lr.size = n ∧ lv_wf lr ∧ ∀ (k : Nat) (v : mx_V), ls[k]? = some (some v) → lr[k]? = some (.val (mx_c v)) ∧ mx_ok v
def mx_en : Nat → List (Option mx_V) → List (Nat × Value)
  | _, [] => []
  | i, none :: t => mx_en (i + 1) t
  | i, some v :: t => (i, mx_c v) :: mx_en (i + 1) t
theorem mx_en_of : ∀ (ls : List (Option mx_V)) (i k : Nat) (v : mx_V), ls[k]? = some (some v) → (i + k, mx_c v) ∈ mx_en i ls
  | [], _, _, _, h => by simp at h
  | none :: t, i, 0, v, h => by simp at h
  | some w :: t, i, 0, v, h => by
    simp at h
    subst h
    simp [mx_en]
  | none :: t, i, k + 1, v, h => by
    have := mx_en_of t (i + 1) k v (by simpa using h)
    rw [mx_en, show i + (k + 1) = i + 1 + k by omega]
    exact this
  | some w :: t, i, k + 1, v, h => by
    have := mx_en_of t (i + 1) k v (by simpa using h)
    rw [mx_en, show i + (k + 1) = i + 1 + k by omega]
    exact List.mem_cons_of_mem _ this
theorem mx_en_to : ∀ (ls : List (Option mx_V)) (i : Nat) (q : Nat × Value), q ∈ mx_en i ls → ∃ (k : Nat) (v : mx_V), ls[k]? = some (some v) ∧ q = (i + k, mx_c v)
  | [], _, q, h => by simp [mx_en] at h
  | none :: t, i, q, h => by
    obtain ⟨k, v, h1, h2⟩ := mx_en_to t (i + 1) q h
    exact ⟨k + 1, v, by simpa using h1, by rw [h2]; congr 1; omega⟩
  | some w :: t, i, q, h => by
    rcases List.mem_cons.mp h with h | h
    · exact ⟨0, w, rfl, h⟩
    · obtain ⟨k, v, h1, h2⟩ := mx_en_to t (i + 1) q h
      exact ⟨k + 1, v, by simpa using h1, by rw [h2]; congr 1; omega⟩
theorem mx_l.has {n : Nat} {ls : List (Option mx_V)} {lr : Array Slot} (h : mx_l n ls lr) : lv_has lr n (mx_en 0 ls) := by
  refine ⟨h.2.1, h.2.2.1, fun q hq => ?_⟩
  obtain ⟨k, v, h1, rfl⟩ := mx_en_to ls 0 q hq
  simpa using (h.2.2.2 k v h1).1
theorem mx_l.at {n : Nat} {ls : List (Option mx_V)} {lr : Array Slot} (h : mx_l n ls lr) {k : Nat} {v : mx_V} (hk : ls[k]? = some (some v)) : lr[k]? = some (.val (mx_c v)) := (h.2.2.2 k v hk).1
theorem mx_l.ok {n : Nat} {ls : List (Option mx_V)} {lr : Array Slot} (h : mx_l n ls lr) {k : Nat} {v : mx_V} (hk : ls[k]? = some (some v)) : mx_ok v := (h.2.2.2 k v hk).2
def mx_2 : Option mx_V → Bool
  | some (.inr (.inr (.inl _))) => true
  | some (.inr (.inr (.inr (.inr _)))) => true
  | _ => false
theorem mx_cat1 {v : mx_V} (h : mx_2 (some v) = false) : (mx_c v).category = 1 := by
  rcases v with x | (_ | a) | x | x | x <;> first | rfl | cases h
theorem mx_cat2 {v : mx_V} (h : mx_2 (some v) = true) : (mx_c v).category = 2 := by
  rcases v with x | (_ | a) | x | x | x <;> first | rfl | cases h
theorem mx_cat12 {v : mx_V} : (mx_c v).category = 2 → mx_2 (some v) = true := by
  rcases v with x | (_ | a) | x | x | x <;> intro h <;> first | rfl | cases h
def mx_kill (ls : List (Option mx_V)) : Nat → List (Option mx_V)
  | 0 => ls
  | k + 1 => if mx_2 (ls[k]?.getD none) then ls.set k none else ls
def mx_s1 (ls : List (Option mx_V)) (k : Nat) (v : mx_V) : List (Option mx_V) := (mx_kill ls k).set k (some v)
def mx_s2 (ls : List (Option mx_V)) (k : Nat) (v : mx_V) : List (Option mx_V) := ((mx_kill ls k).set k (some v)).set (k + 1) none
theorem mx_kill_succ (ls : List (Option mx_V)) (k : Nat) : mx_kill ls (k + 1) = if mx_2 (ls[k]?.getD none) then ls.set k none else ls := rfl
theorem mx_kill_len (ls : List (Option mx_V)) (k : Nat) : (mx_kill ls k).length = ls.length := by
  cases k with
  | zero => rfl
  | succ k => rw [mx_kill_succ]; split <;> simp
theorem mx_kill_at {ls : List (Option mx_V)} {k j : Nat} {v : mx_V} (h : (mx_kill ls k)[j]? = some (some v)) : ls[j]? = some (some v) ∧ (j + 1 = k → mx_2 (some v) = false) := by
  cases k with
  | zero => exact ⟨h, fun q => by omega⟩
  | succ k =>
    rw [mx_kill_succ] at h
    by_cases g : mx_2 (ls[k]?.getD none) = true
    · rw [if_pos g] at h
      by_cases e : j = k
      · subst e
        by_cases hl : j < ls.length
        · rw [List.getElem?_set_self hl] at h
          cases h
        · rw [List.getElem?_eq_none (by simpa using hl)] at h
          cases h
      · rw [List.getElem?_set_ne (Ne.symm e)] at h
        exact ⟨h, fun q => by omega⟩
    · rw [if_neg g] at h
      refine ⟨h, fun q => ?_⟩
      have e : j = k := by omega
      subst e
      rw [h] at g
      simpa using g
theorem mx_l.s1 {n k : Nat} {ls : List (Option mx_V)} {lr lr' : Array Slot} {v : mx_V} (h : mx_l n ls lr) (hv : mx_ok v) (h' : lv_has lr' n ((k, mx_c v) :: (mx_en 0 ls).filter (fun q => !(q.1 == k) && !(q.1 + 1 == k && q.2.category == 2)))) : mx_l n (mx_s1 ls k v) lr' := by
  refine ⟨by simp [mx_s1, mx_kill_len, h.1], h'.1, h'.2.1, fun j w hj => ?_⟩
  unfold mx_s1 at hj
  by_cases e : j = k
  · subst e
    have hl : j < (mx_kill ls j).length := by
      have := (List.getElem?_eq_some_iff.mp hj).1
      simpa using this
    rw [List.getElem?_set_self hl] at hj
    cases hj
    exact ⟨h'.2.2 (j, mx_c v) List.mem_cons_self, hv⟩
  · rw [List.getElem?_set_ne (Ne.symm e)] at hj
    obtain ⟨h1, h2⟩ := mx_kill_at hj
    refine ⟨h'.2.2 (j, mx_c w) (List.mem_cons_of_mem _ (List.mem_filter.mpr ⟨by simpa using mx_en_of ls 0 j w h1, ?_⟩)), (h.2.2.2 j w h1).2⟩
    simp only [Bool.and_eq_true, Bool.not_eq_true', beq_eq_false_iff_ne, Bool.and_eq_false_iff]
    refine ⟨e, ?_⟩
    by_cases g : j + 1 = k
    · right
      have := h2 g
      intro hc
      rw [mx_cat12 (v := w) (by simpa using hc)] at this
      cases this
    · exact Or.inl g
theorem mx_l.s2 {n k : Nat} {ls : List (Option mx_V)} {lr lr' : Array Slot} {v : mx_V} (h : mx_l n ls lr) (hv : mx_ok v) (h' : lv_has lr' n ((k, mx_c v) :: (mx_en 0 ls).filter (fun q => !(q.1 == k) && (!(q.1 == k + 1) && !(q.1 + 1 == k && q.2.category == 2))))) : mx_l n (mx_s2 ls k v) lr' := by
  refine ⟨by simp [mx_s2, mx_kill_len, h.1], h'.1, h'.2.1, fun j w hj => ?_⟩
  unfold mx_s2 at hj
  by_cases e1 : j = k + 1
  · subst e1
    have hl := (List.getElem?_eq_some_iff.mp hj).1
    rw [List.getElem?_set_self (by simpa using hl)] at hj
    cases hj
  rw [List.getElem?_set_ne (Ne.symm e1)] at hj
  by_cases e : j = k
  · subst e
    have hl : j < (mx_kill ls j).length := by
      have := (List.getElem?_eq_some_iff.mp hj).1
      simpa using this
    rw [List.getElem?_set_self hl] at hj
    cases hj
    exact ⟨h'.2.2 (j, mx_c v) List.mem_cons_self, hv⟩
  · rw [List.getElem?_set_ne (Ne.symm e)] at hj
    obtain ⟨h1, h2⟩ := mx_kill_at hj
    refine ⟨h'.2.2 (j, mx_c w) (List.mem_cons_of_mem _ (List.mem_filter.mpr ⟨by simpa using mx_en_of ls 0 j w h1, ?_⟩)), (h.2.2.2 j w h1).2⟩
    simp only [Bool.and_eq_true, Bool.not_eq_true', beq_eq_false_iff_ne, Bool.and_eq_false_iff]
    refine ⟨e, e1, ?_⟩
    by_cases g : j + 1 = k
    · right
      have := h2 g
      intro hc
      rw [mx_cat12 (v := w) (by simpa using hc)] at this
      cases this
    · exact Or.inl g
/-- the number that the machine makes of x -/
def mx_w (x : Int) : Int := (Int32.ofInt x).toInt
def mx_w6 (x : Int) : Int := (Int64.ofInt x).toInt
theorem mx_w_id {x : Int} (h1 : -2147483648 ≤ x) (h2 : x ≤ 2147483647) : mx_w x = x := by
  unfold mx_w
  rw [Int32.toInt_ofInt, Int.bmod_def]
  simp only [Int32.size]
  omega
theorem mx_w6_id {x : Int} (h1 : -9223372036854775808 ≤ x) (h2 : x ≤ 9223372036854775807) : mx_w6 x = x := by
  unfold mx_w6
  rw [Int64.toInt_ofInt, Int.bmod_def]
  simp only [Int64.size]
  omega
theorem mx_w_of (x : Int) : Int32.ofInt (mx_w x) = Int32.ofInt x := by
  unfold mx_w
  rw [Int32.ofInt_toInt]
theorem mx_w6_of (x : Int) : Int64.ofInt (mx_w6 x) = Int64.ofInt x := by
  unfold mx_w6
  rw [Int64.ofInt_toInt]
theorem mx_w_ok (x : Int) : mx_ok (mI (mx_w x)) := by
  refine ⟨?_, ?_⟩
  · exact Int32.le_toInt _
  · have := Int32.toInt_lt (Int32.ofInt x)
    unfold mx_w
    omega
theorem mx_w6_ok (x : Int) : mx_ok (mL (mx_w6 x)) := by
  refine ⟨?_, ?_⟩
  · exact Int64.le_toInt _
  · have := Int64.toInt_lt (Int64.ofInt x)
    unfold mx_w6
    omega
theorem mx_toInt {x : Int} (h : mx_ok (mI x)) : (Int32.ofInt x).toInt = x := mx_w_id h.1 h.2
theorem mx_toInt6 {x : Int} (h : mx_ok (mL x)) : (Int64.ofInt x).toInt = x := mx_w6_id h.1 h.2
