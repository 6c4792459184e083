/-! The law's start: what the Statement gives of it, as the judgement wants it. -/
def R_law : String := "SuffixhallLaw"
theorem mx_strs {own tx : String} {k : Nat} {A : Array Value} {s : State} (h : (Cond.stringRef own k tx).before A s = true) : ∃ a : Nat, vk_R own k tx a s := by
  have h0 : (Cond.stringRef own k tx).before #[] s = true := h
  have hcur : ∃ cur, s.vm.findClass own = some cur := by
    have h1 := h0
    simp only [Cond.before, Cond.holds, Cond.value] at h1
    cases hc : s.vm.findClass own with
    | none => simp [hc] at h1
    | some cur => exact ⟨cur, rfl⟩
  obtain ⟨cur, hcur⟩ := hcur
  obtain ⟨k9, cf, i, a, -, -, -, -, -, hev⟩ := Cond.stringRef_spec hcur h0
  exact ⟨a, h0, hev⟩
theorem mx_cls {s : State} {args : Array Value} (hts : ∀ w ∈ mx_ws, w.before args s = true) : ∀ c : Nat, ∃ r : ClassId × (Nat → Nat), ∀ q : vw_C, vwCl[c]? = some q → u_Kn s q.1 q.2.1 q.2.2 r.1 r.2
  | 0 => by obtain ⟨cC, iS, h⟩ := u_known hts u_0 (hts _ w_141); exact ⟨(cC, iS), fun q hq => by cases hq; exact h⟩
  | 1 => by obtain ⟨cC, iS, h⟩ := u_known hts u_1 (hts _ w_200); exact ⟨(cC, iS), fun q hq => by cases hq; exact h⟩
  | 2 => by obtain ⟨cC, iS, h⟩ := u_known hts u_2 (hts _ w_64); exact ⟨(cC, iS), fun q hq => by cases hq; exact h⟩
  | 3 => by obtain ⟨cC, iS, h⟩ := u_known hts u_3 (hts _ w_244); exact ⟨(cC, iS), fun q hq => by cases hq; exact h⟩
  | 4 => by obtain ⟨cC, iS, h⟩ := u_known hts u_4 (hts _ w_222); exact ⟨(cC, iS), fun q hq => by cases hq; exact h⟩
  | 5 => by obtain ⟨cC, iS, h⟩ := u_known hts u_5 (hts _ w_179); exact ⟨(cC, iS), fun q hq => by cases hq; exact h⟩
  | 6 => by obtain ⟨cC, iS, h⟩ := u_known hts u_6 (hts _ w_50); exact ⟨(cC, iS), fun q hq => by cases hq; exact h⟩
  | 7 => by obtain ⟨cC, iS, h⟩ := u_known hts u_7 (hts _ w_116); exact ⟨(cC, iS), fun q hq => by cases hq; exact h⟩
  | 8 => by obtain ⟨cC, iS, h⟩ := u_known hts u_8 (hts _ w_76); exact ⟨(cC, iS), fun q hq => by cases hq; exact h⟩
  | 9 => by obtain ⟨cC, iS, h⟩ := u_known hts u_9 (hts _ w_70); exact ⟨(cC, iS), fun q hq => by cases hq; exact h⟩
  | 10 => by obtain ⟨cC, iS, h⟩ := u_known hts u_10 (hts _ w_42); exact ⟨(cC, iS), fun q hq => by cases hq; exact h⟩
  | n + 11 => ⟨(0, fun _ => 0), fun q hq => by simp [vwCl] at hq⟩
theorem mx_strIn : ∀ q ∈ mx_str, (Cond.stringRef q.1 q.2.1 q.2.2 : Cond) ∈ lw_tbl := by decide +kernel
theorem mx_ncIn : ∀ q ∈ mx_nc, Cond.not (.castable q.1 q.2) ∈ flatC (Jvm.Cond.and given_1 narrow_1) := by decide +kernel
theorem mx_aoIn : ∀ t ∈ mx_ao, (Cond.arrayOver t : Cond) ∈ lw_tbl := by decide +kernel
theorem mx_strA {s : State} {args : Array Value} (hts : ∀ w ∈ lw_tbl, w.before args s = true) (i : Nat) : ∃ a : Nat, ∀ q : String × Nat × String, mx_str[i]? = some q → vk_R q.1 q.2.1 q.2.2 a s := by
  cases h : mx_str[i]? with
  | none => exact ⟨0, fun q hq => by cases hq⟩
  | some r =>
    obtain ⟨a, ha⟩ := mx_strs (hts _ (mx_strIn r (List.mem_of_getElem? h)))
    exact ⟨a, fun q hq => by cases hq; exact ha⟩
theorem mx_arrP {s : State} {args : Array Value} {ty : FieldType} (h : (Cond.arrayClass ty).before args s = true) : ∃ c : ClassId, ArrOfT s c ty ∧ s.vm.findClass ("[" ++ ty.toString) = some c := by
  obtain ⟨c, k, comp, h1, h2, h3⟩ := Cond.arrayClass_spec h
  exact ⟨c, fun n z => ⟨(fun q hq => by cases hq), k, h2, comp, h3⟩, h1⟩
theorem mx_arrA {s : State} {args : Array Value} {ty : FieldType} (h : (Cond.arrayOver (.array ty)).before args s = true) : ∃ c : ClassId, ArrOfT s c (.array ty) ∧ va_RA s c (.array ty) := by
  obtain ⟨comp, c, k, hc, hi, hk, hkind, hn⟩ := arrayOverA_spec h
  exact ⟨c, fun n z => ⟨(fun q hq => by cases hq), k, hk, comp, hkind⟩, hn⟩
theorem mx_arrO {s : State} {args : Array Value} {C : String} (h : (Cond.arrayOver (.object C)).before args s = true) : ∃ c : ClassId, ArrOfT s c (.object C) ∧ va_RA s c (.object C) := by
  obtain ⟨comp, c, k, hc, hi, hk, hkind, hn⟩ := Cond.arrayOver_spec h
  exact ⟨c, fun n z => ⟨(fun q hq => by cases hq), k, hk, comp, hkind⟩, k, comp, hk, hkind, hc, hn⟩
/-- the heap that the law finds: its script alone -/
def σ0 (n b L : Nat) (xs : Nat → Int32) : mx_S := (n, fun q => if q = b then some (.inr (0, L, fun j => mI (xs j).toInt)) else none, n, 0, 0)
theorem mx_begin {s : State} {b L : Nat} {xs : Nat → Int32} (hL : L ≤ 260) (hts : ∀ w ∈ lw_tbl, w.before #[Value.ref b] s = true) (hX : va_X b L xs s s.heap) (hbl : b < s.heap.size) (hgv : (Jvm.Cond.and given_1 narrow_1).before #[Value.ref b] s = true) : ∃ G : mx_G, mx_W G s.heap.size s s.heap ∧ mx_H G (σ0 s.heap.size b L xs) s.heap := by
  have hts' : ∀ w ∈ mx_ws, w.before #[Value.ref b] s = true := fun w hw => hts w (List.mem_filter.mp hw).1
  have hs := flat_of_before _ hgv
  obtain ⟨scr, x1, x2, x3, x4, x5⟩ := hX
  obtain ⟨a0, a0', a0''⟩ := mx_arrP (hts (.arrayClass .int) (by decide +kernel))
  obtain ⟨a1, a1', a1''⟩ := mx_arrP (hts (.arrayClass .char) (by decide +kernel))
  obtain ⟨a2, a2', a2''⟩ := mx_arrA (hts (.arrayOver (.array .int)) (by decide +kernel))
  obtain ⟨a3, a3', a3''⟩ := mx_arrA (hts (.arrayOver (.array .char)) (by decide +kernel))
  obtain ⟨a4, a4', a4''⟩ := mx_arrO (hts (.arrayOver (.object "Suffixhall$Row")) (by decide +kernel))
  obtain ⟨a5, a5', a5''⟩ := mx_arrO (hts (.arrayOver (.object "Suffixhall$View")) (by decide +kernel))
  have hA : ∀ a : Nat, a < s.heap.size → ¬ mx_A s.heap.size a := fun a h1 h2 => absurd h2 (Nat.not_le_of_lt h1)
  refine ⟨((fun c => (Classical.choose (mx_cls hts' c)).1, fun c => (Classical.choose (mx_cls hts' c)).2), fun k => match k with | 0 => a0 | 1 => a1 | 2 => a2 | 3 => a3 | 4 => a4 | 5 => a5 | _ => scr.cls, fun i => Classical.choose (mx_strA hts i)), ⟨Nat.le_refl _, fun c q hq => Classical.choose_spec (mx_cls hts' c) q hq, fun k hk => ?_, ?_, ?_, fun i q hq => Classical.choose_spec (mx_strA hts i) q hq, fun w hw => ?_, fun q hq => ?_, fun t ht => ?_, ?_⟩, Nat.le_refl _, rfl, fun a e ha => ?_⟩
  · match k, hk with
    | 0, _ => exact ⟨a0', a0''⟩
    | 1, _ => exact ⟨a1', a1''⟩
    | 2, _ => exact ⟨a2', a2''⟩
    | 3, _ => exact ⟨a3', a3''⟩
    | 4, _ => exact ⟨a4', a4''⟩
    | 5, _ => exact ⟨a5', a5''⟩
  · exact vx_Zqof (hts (.laysStatic "java/lang/Throwable" "UNASSIGNED_STACK" "[Ljava/lang/StackTraceElement;") (by decide +kernel)) (hts (.initialized "java/lang/Throwable") (by decide +kernel)) (hs (.isRef (.static "java/lang/Throwable" "UNASSIGNED_STACK" "[Ljava/lang/StackTraceElement;")) (by decide +kernel)) hA
  · exact vx_Zqof (hts (.laysStatic "java/lang/Throwable" "SUPPRESSED_SENTINEL" "Ljava/util/List;") (by decide +kernel)) (hts (.initialized "java/lang/Throwable") (by decide +kernel)) (hs (.isRef (.static "java/lang/Throwable" "SUPPRESSED_SENTINEL" "Ljava/util/List;")) (by decide +kernel)) hA
  · exact va_Nw.of (mx_bad_ot (List.mem_filter.mp hw).2) (hts w (List.mem_filter.mp hw).1)
  · exact va_Nc.of (hs _ (mx_ncIn q hq))
  · exact hts _ (mx_aoIn t ht)
  · exact fun n z => ⟨(fun q hq => by cases hq), x2.2⟩
  · have ha2 : (if a = b then some (.inr (0, L, fun j => mI (xs j).toInt)) else none : Option mx_E) = some e := ha
    clear ha
    by_cases c : a = b
    · rw [if_pos c] at ha2
      subst c
      have ha3 := Option.some.inj ha2
      subst ha3
      refine Or.inr ⟨hbl, rfl, scr, x1, x2.1, x3, rfl, ?_, fun j hj => ⟨Int32.le_toInt _, by have := Int32.toInt_lt (xs j); omega⟩, by show L ≤ 2147483647; omega⟩
      apply Array.ext_getElem?
      intro i
      by_cases hi : i < L
      · rw [x5 i hi, arrV_read _ _ hi]
        show _ = some (Value.int (Int32.ofInt (xs i).toInt))
        rw [Int32.ofInt_toInt]
      · rw [Array.getElem?_eq_none (by omega), Array.getElem?_eq_none (by rw [arrV_size]; show L ≤ i; omega)]
    · rw [if_neg c] at ha2
      cases ha2
