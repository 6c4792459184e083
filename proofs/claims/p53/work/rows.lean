section
-- ===== PART A: goes FIRST, ahead of the names: the tables' words, and 'selects' of the private methods out of them =====
/-- a private method of a class that the tables say can be made, by its rows of tables_1 -/
def lw_okq (q : MethodName × Nat) : Prop := (q.1.cls ≠ "java/lang/invoke/MethodHandle" ∧ q.1.cls ≠ "java/lang/invoke/VarHandle") ∧ Cond.instantiable q.1.cls q.2 ∈ tables_1 ∧ Cond.privateMethod q.1 ∈ tables_1 ∧ Cond.instanceMethod q.1 ∈ tables_1
theorem lw_p0 : lw_okq (⟨"Suffixhall", "orderedView", "(I)LSuffixhall$View;"⟩, 8) := ⟨⟨by decide +kernel, by decide +kernel⟩, List.mem_of_getElem? (i := 24) (by decide +kernel), List.mem_of_getElem? (i := 269) (by decide +kernel), List.mem_of_getElem? (i := 270) (by decide +kernel)⟩
theorem lw_p1 : lw_okq (⟨"Suffixhall", "neededView", "(I)LSuffixhall$View;"⟩, 8) := ⟨⟨by decide +kernel, by decide +kernel⟩, List.mem_of_getElem? (i := 24) (by decide +kernel), List.mem_of_getElem? (i := 273) (by decide +kernel), List.mem_of_getElem? (i := 274) (by decide +kernel)⟩
theorem lw_p2 : lw_okq (⟨"Suffixhall$Hall", "shelf", "(I)LSuffixhall$View;"⟩, 7) := ⟨⟨by decide +kernel, by decide +kernel⟩, List.mem_of_getElem? (i := 46) (by decide +kernel), List.mem_of_getElem? (i := 285) (by decide +kernel), List.mem_of_getElem? (i := 286) (by decide +kernel)⟩
theorem lw_p3 : lw_okq (⟨"java/lang/Throwable", "fillInStackTrace", "(I)Ljava/lang/Throwable;"⟩, 6) := ⟨⟨by decide +kernel, by decide +kernel⟩, List.mem_of_getElem? (i := 329) (by decide +kernel), List.mem_of_getElem? (i := 327) (by decide +kernel), List.mem_of_getElem? (i := 328) (by decide +kernel)⟩
theorem lw_p4 : lw_okq (⟨"Suffixhall$Texts", "isSlot", "(I)Z"⟩, 4) := ⟨⟨by decide +kernel, by decide +kernel⟩, List.mem_of_getElem? (i := 58) (by decide +kernel), List.mem_of_getElem? (i := 371) (by decide +kernel), List.mem_of_getElem? (i := 372) (by decide +kernel)⟩
theorem lw_p5 : lw_okq (⟨"Suffixhall$View", "putIn", "(II)V"⟩, 6) := ⟨⟨by decide +kernel, by decide +kernel⟩, List.mem_of_getElem? (i := 52) (by decide +kernel), List.mem_of_getElem? (i := 375) (by decide +kernel), List.mem_of_getElem? (i := 376) (by decide +kernel)⟩
theorem lw_p6 : lw_okq (⟨"Suffixhall$View", "codeAt", "(I)I"⟩, 6) := ⟨⟨by decide +kernel, by decide +kernel⟩, List.mem_of_getElem? (i := 52) (by decide +kernel), List.mem_of_getElem? (i := 398) (by decide +kernel), List.mem_of_getElem? (i := 399) (by decide +kernel)⟩
theorem lw_p7 : lw_okq (⟨"Suffixhall$View", "isRising", "(I)Z"⟩, 6) := ⟨⟨by decide +kernel, by decide +kernel⟩, List.mem_of_getElem? (i := 52) (by decide +kernel), List.mem_of_getElem? (i := 459) (by decide +kernel), List.mem_of_getElem? (i := 460) (by decide +kernel)⟩
theorem lw_p8 : lw_okq (⟨"Suffixhall$Segments", "livingAt", "(I)I"⟩, 5) := ⟨⟨by decide +kernel, by decide +kernel⟩, List.mem_of_getElem? (i := 98) (by decide +kernel), List.mem_of_getElem? (i := 468) (by decide +kernel), List.mem_of_getElem? (i := 469) (by decide +kernel)⟩
theorem lw_p9 : lw_okq (⟨"Suffixhall$Segments", "isSegment", "(I)Z"⟩, 5) := ⟨⟨by decide +kernel, by decide +kernel⟩, List.mem_of_getElem? (i := 98) (by decide +kernel), List.mem_of_getElem? (i := 472) (by decide +kernel), List.mem_of_getElem? (i := 473) (by decide +kernel)⟩
theorem lw_p10 : lw_okq (⟨"Suffixhall$Segments", "homeOf", "(I)I"⟩, 5) := ⟨⟨by decide +kernel, by decide +kernel⟩, List.mem_of_getElem? (i := 98) (by decide +kernel), List.mem_of_getElem? (i := 481) (by decide +kernel), List.mem_of_getElem? (i := 482) (by decide +kernel)⟩
theorem lw_p11 : lw_okq (⟨"Suffixhall", "needPlainRow", "()V"⟩, 8) := ⟨⟨by decide +kernel, by decide +kernel⟩, List.mem_of_getElem? (i := 24) (by decide +kernel), List.mem_of_getElem? (i := 550) (by decide +kernel), List.mem_of_getElem? (i := 551) (by decide +kernel)⟩
theorem lw_p12 : lw_okq (⟨"Suffixhall$Segments", "fill", "(IIII)V"⟩, 5) := ⟨⟨by decide +kernel, by decide +kernel⟩, List.mem_of_getElem? (i := 98) (by decide +kernel), List.mem_of_getElem? (i := 608) (by decide +kernel), List.mem_of_getElem? (i := 609) (by decide +kernel)⟩
theorem lw_p13 : lw_okq (⟨"Suffixhall$Segments", "setHome", "(II)V"⟩, 5) := ⟨⟨by decide +kernel, by decide +kernel⟩, List.mem_of_getElem? (i := 98) (by decide +kernel), List.mem_of_getElem? (i := 612) (by decide +kernel), List.mem_of_getElem? (i := 613) (by decide +kernel)⟩
theorem lw_p14 : lw_okq (⟨"Suffixhall$Hall", "bury", "(I)V"⟩, 7) := ⟨⟨by decide +kernel, by decide +kernel⟩, List.mem_of_getElem? (i := 46) (by decide +kernel), List.mem_of_getElem? (i := 647) (by decide +kernel), List.mem_of_getElem? (i := 648) (by decide +kernel)⟩
theorem lw_p15 : lw_okq (⟨"Suffixhall", "needSimpleRow", "()V"⟩, 8) := ⟨⟨by decide +kernel, by decide +kernel⟩, List.mem_of_getElem? (i := 24) (by decide +kernel), List.mem_of_getElem? (i := 769) (by decide +kernel), List.mem_of_getElem? (i := 770) (by decide +kernel)⟩
def lw_privs_1 : List (MethodName × Nat) := [(⟨"Suffixhall", "orderedView", "(I)LSuffixhall$View;"⟩, 8), (⟨"Suffixhall", "neededView", "(I)LSuffixhall$View;"⟩, 8), (⟨"Suffixhall$Hall", "shelf", "(I)LSuffixhall$View;"⟩, 7), (⟨"java/lang/Throwable", "fillInStackTrace", "(I)Ljava/lang/Throwable;"⟩, 6), (⟨"Suffixhall$Texts", "isSlot", "(I)Z"⟩, 4), (⟨"Suffixhall$View", "putIn", "(II)V"⟩, 6), (⟨"Suffixhall$View", "codeAt", "(I)I"⟩, 6), (⟨"Suffixhall$View", "isRising", "(I)Z"⟩, 6), (⟨"Suffixhall$Segments", "livingAt", "(I)I"⟩, 5), (⟨"Suffixhall$Segments", "isSegment", "(I)Z"⟩, 5), (⟨"Suffixhall$Segments", "homeOf", "(I)I"⟩, 5), (⟨"Suffixhall", "needPlainRow", "()V"⟩, 8), (⟨"Suffixhall$Segments", "fill", "(IIII)V"⟩, 5), (⟨"Suffixhall$Segments", "setHome", "(II)V"⟩, 5), (⟨"Suffixhall$Hall", "bury", "(I)V"⟩, 7), (⟨"Suffixhall", "needSimpleRow", "()V"⟩, 8)]
theorem lw_r1 : ∀ q ∈ lw_privs_1, lw_okq q := List.forall_mem_cons.mpr ⟨lw_p0, List.forall_mem_cons.mpr ⟨lw_p1, List.forall_mem_cons.mpr ⟨lw_p2, List.forall_mem_cons.mpr ⟨lw_p3, List.forall_mem_cons.mpr ⟨lw_p4, List.forall_mem_cons.mpr ⟨lw_p5, List.forall_mem_cons.mpr ⟨lw_p6, List.forall_mem_cons.mpr ⟨lw_p7, List.forall_mem_cons.mpr ⟨lw_p8, List.forall_mem_cons.mpr ⟨lw_p9, List.forall_mem_cons.mpr ⟨lw_p10, List.forall_mem_cons.mpr ⟨lw_p11, List.forall_mem_cons.mpr ⟨lw_p12, List.forall_mem_cons.mpr ⟨lw_p13, List.forall_mem_cons.mpr ⟨lw_p14, List.forall_mem_cons.mpr ⟨lw_p15, fun _ h => absurd h List.not_mem_nil⟩⟩⟩⟩⟩⟩⟩⟩⟩⟩⟩⟩⟩⟩⟩⟩
theorem lw_p16 : lw_okq (⟨"Suffixhall$Texts", "allPlaces", "(I)J"⟩, 4) := ⟨⟨by decide +kernel, by decide +kernel⟩, List.mem_of_getElem? (i := 58) (by decide +kernel), List.mem_of_getElem? (i := 786) (by decide +kernel), List.mem_of_getElem? (i := 787) (by decide +kernel)⟩
theorem lw_p17 : lw_okq (⟨"Suffixhall$Texts", "placesTaking", "(IC)J"⟩, 4) := ⟨⟨by decide +kernel, by decide +kernel⟩, List.mem_of_getElem? (i := 58) (by decide +kernel), List.mem_of_getElem? (i := 790) (by decide +kernel), List.mem_of_getElem? (i := 791) (by decide +kernel)⟩
def lw_privs_2 : List (MethodName × Nat) := [(⟨"Suffixhall$Texts", "allPlaces", "(I)J"⟩, 4), (⟨"Suffixhall$Texts", "placesTaking", "(IC)J"⟩, 4)]
theorem lw_r2 : ∀ q ∈ lw_privs_2, lw_okq q := List.forall_mem_cons.mpr ⟨lw_p16, List.forall_mem_cons.mpr ⟨lw_p17, fun _ h => absurd h List.not_mem_nil⟩⟩
def lw_privs : List (MethodName × Nat) := lw_privs_1 ++ (lw_privs_2)
def lw_tbl : List Cond := k2_sels lw_privs ++ tables_1
theorem lw_privs_ok : ∀ q ∈ lw_privs, lw_okq q := by
  show ∀ q ∈ lw_privs_1 ++ (lw_privs_2), lw_okq q
  exact List.forall_mem_append.mpr ⟨lw_r1, lw_r2⟩
/-- the streams that the claim lets the run draw from -/
abbrev lw_cs : List Choice := [Jvm.Choice.named "NaN.bits"]
theorem lw_bits : nanBits ∈ lw_cs := by first | decide | exact List.mem_cons_self | simp [lw_cs, nanBits]
-- ===== end of PART A; then your names; then what follows =====
end
section
/-! ===== BEGIN words of one list among another's, by their places ===== -/
theorem goodIn_r {big : List Cond} (ws : List Cond) (ps : List Nat) (hp : ws = ps.filterMap (fun i => big[i]?)) (h : ws.all goodWord = true) : GoodIn big ws := by
  intro w hw
  have h1 := List.all_eq_true.mp h w hw
  rw [hp] at hw
  obtain ⟨i, -, hi⟩ := List.mem_filterMap.mp hw
  have hm : w ∈ big := by first | exact List.mem_of_getElem? hi | exact List.getElem?_mem hi
  exact ⟨hm, good_of_word h1⟩
theorem goodIn_app {big a b : List Cond} (ha : GoodIn big a) (hb : GoodIn big b) : GoodIn big (a ++ b) := fun w h => (List.mem_append.mp h).elim (ha w) (hb w)
theorem goodIn_ca {big a b : List Cond} {c : Cond} (ha : GoodIn big (c :: a)) (hb : GoodIn big b) : GoodIn big (c :: (a ++ b)) := fun w h => (List.mem_cons.mp h).elim (fun e => ha w (List.mem_cons.mpr (Or.inl e))) (fun h => (List.mem_append.mp h).elim (fun h => ha w (List.mem_cons.mpr (Or.inr h))) (hb w))
theorem goodIn_sub {big ws : List Cond} (hm : ∀ w ∈ ws, w ∈ big) (h : ws.all goodWord = true) : GoodIn big ws := fun w hw => ⟨hm w hw, good_of_word (List.all_eq_true.mp h w hw)⟩
/-! ===== END ===== -/

/-! ===== BEGIN new T[n][m]: the outer array a place, the inner ones among the pooled ===== -/
/-- f, but v at every address of l -/
def vr_up {α : Type} (f : Nat → α) (l : List Nat) (v : α) : Nat → α := fun a => if a ∈ l then v else f a
theorem vr_up_in {α : Type} {f : Nat → α} {l : List Nat} {v : α} {a : Nat} (h : a ∈ l) : vr_up f l v a = v := if_pos h
theorem vr_up_ne {α : Type} {f : Nat → α} {l : List Nat} {v : α} {a : Nat} (h : a ∉ l) : vr_up f l v a = f a := if_neg h
theorem vr_rows {L l : List Nat} {f : Nat → va_E} {e : va_E} (h : ∀ a, a ∈ l → a ∉ L) : va_pl L f ++ l.map (fun a => (a, e)) = va_pl (L ++ l) (vr_up f l e) := by
  unfold va_pl
  rw [List.map_append]
  congr 1
  · apply List.map_congr_left
    intro a ha
    rw [vr_up_ne (fun q => h a q ha)]
  · apply List.map_congr_left
    intro a ha
    rw [vr_up_in ha]
theorem vr_lay {X rows : va_W} {x : Nat × va_E} {pl : va_W} {D : va_G} {cl : List vw_C} {H : Heap} (hP : va_P D cl (((X ++ pl) ++ [x]) ++ rows) H) : va_P D cl ((X ++ [x]) ++ (pl ++ rows)) H := by
  rw [List.append_assoc (X ++ pl)] at hP
  have h := va_P.swap hP
  rw [← List.append_assoc X] at h
  have h2 := va_P.swap h
  rw [List.append_assoc (X ++ [x])] at h2
  exact h2
theorem vr_layD {X rows : va_W} {x : Nat × va_E} {pl : va_W} {A : Nat → Prop} (hD : va_D A (((X ++ pl) ++ [x]) ++ rows)) : va_D A ((X ++ [x]) ++ (pl ++ rows)) := by
  rw [List.append_assoc (X ++ pl)] at hD
  have h := va_D.swap hD
  rw [← List.append_assoc X] at h
  have h2 := va_D.swap h
  rw [List.append_assoc (X ++ [x])] at h2
  exact h2
theorem vr_outer (c : ClassId) (N h0 : Nat) : ∀ i : Nat, Jvm.Free.Multi.outerC c N h0 i = arrV c N (fun j => va_rf (if j < i then some (h0 + 1 + j) else none))
  | 0 => by
    show ({ cls := c, slots := Array.replicate N .null, vm := .none } : Cell) = _
    rw [arrV_new]
    refine congrArg (arrV c N) (funext fun j => ?_)
    simp [va_rf]
  | i + 1 => by
    show (Jvm.Free.Multi.outerC c N h0 i).setSlot i (.ref (h0 + 1 + i)) = _
    rw [vr_outer c N h0 i, arrV_store]
    refine congrArg (arrV c N) (funext fun j => ?_)
    by_cases e : j = i
    · subst e
      simp [updV, va_rf]
    · by_cases h : j < i
      · simp [updV, e, h, Nat.lt_succ_of_lt h]
      · simp [updV, e, h, show ¬ j < i + 1 by omega]
def va_AOA (t : FieldType) (U : State) : Prop := (Cond.arrayOver (.array t)).before #[] U = true
theorem va_AOA.use {t : FieldType} {A : Array Value} {U : State} (h : va_AOA t U) : (Cond.arrayOver (.array t)).before A U = true := h
section VGM
variable {p : Program} {l : Launch} {e : Env} {R : Room} {s : State} {m : MethodId} {args : Array Value} {below : List Frame} {meth : Method} {c : Code} {H : Heap} {locs : List Loc} {cells slots : Nat} {Q : State → Prop}
variable {cc : ByteArray} {pc : Nat} {ls : Array Slot} {rest : List Value} {D : va_G} {cl : List vw_C} {A : Nat → Prop} {a : Nat} {tys : List (ClassId × FieldType)} {ws : va_W} {H0 : Heap}
theorem va_mna {X : va_W} {L : List Nat} {f : Nat → va_E} {cc : ByteArray} (hexec : p.tables.exec = Jvm.exec) (hb : c.code = cc) {own : String} {index : Nat} {ty : FieldType} {cy : ClassId} (hown : s.vm.findClass own = some m.cls) (hclink : (Cond.classLink own index ("[" ++ (FieldType.array ty).toString)).before args s = true) (hover : va_AOA ty s) (harr : (Cond.arrayClass ty).before args s = true) (hcy : s.vm.findClass (FieldType.array ty).toString = some cy)
    (hK : va_K D cl tys s) (hP : va_P D cl (X ++ va_pl L f) H) (hD : va_D A (X ++ va_pl L f)) (hS : va_S A H0 H locs) (hA : ∀ q, H0.size ≤ q → A q) {n k : Int32} {N' K' : Nat} {z : vp_A} (hn : ¬ n < 0) (hk : ¬ k < 0) (hN : n.toNatClampNeg = N') (hM : k.toNatClampNeg = K')
    (hb1 : N' * 4 ≤ 536870912) (hb2 : K' * componentBytes ty ≤ 536870912) (hb3 : K' ≤ 536870912) (hdf : fits ty (defaultValue ty) = true) (hdd : (defaultValue ty).isDefault = true) (hcells : cells + (1 + N') ≤ R.cells) (hslots : slots + (N' + N' * K') ≤ R.slots) (hz : ∀ c : ClassId, Jvm.Free.Multi.innerC c K' (defaultValue ty) = vp_cell c z) (hdg : decode cc pc = .ok (.multianewarray index 2, 4))
    (kk : ∀ (q : Nat) (r : Nat → Nat) (cA : ClassId) (H1 : Heap), (∀ i j : Nat, i < N' → j < N' → r i = r j → i = j) → (∀ i : Nat, i < N' → r i ∉ L) → va_K D cl (tys ++ [(cA, .array ty)]) s →
      va_P D cl ((X ++ [(q, .inl (cA, N', .inr (.inr (.inr (.inr (fun i => if i < N' then some (r i) else none))))))]) ++ va_pl (L ++ (List.range N').map r) (vr_up f ((List.range N').map r) (.inl (cy, z)))) H1 → va_D A ((X ++ [(q, .inl (cA, N', .inr (.inr (.inr (.inr (fun i => if i < N' then some (r i) else none))))))]) ++ va_pl (L ++ (List.range N').map r) (vr_up f ((List.range N').map r) (.inl (cy, z)))) → va_S A H0 H1 locs →
      W p l e R s m args below meth c H1 locs (cells + 1 + N') (slots + N' + N' * K') Q (F0 m (pc + 4) ls (.ref q :: rest))) : W p l e R s m args below meth c H locs cells slots Q (F0 m pc ls (.int k :: .int n :: rest)) := by
  subst hN
  subst hM
  intro T hT Xs
  obtain ⟨vm₁, cA, comp, -, fA, fC, hO, -, X', step⟩ := Xs.multianewarray2F hexec hown hclink (va_AOA.use hover) harr (g := F0 m pc ls (.int k :: .int n :: rest)) rfl (by rw [hb]; exact hdg) rfl hn hk hb1 hb2 hb3 hdf hdd hcells hslots
  have ec : some cy = some comp := hcy.symm.trans fC
  cases ec
  generalize hF : Jvm.Free.Multi.fill (T.setVm vm₁) cA cy n.toNatClampNeg k.toNatClampNeg (defaultValue ty) n.toNatClampNeg = F at X' step
  have hTh : (T.setVm vm₁).heap = H := hT
  obtain ⟨f1, f2, -, -⟩ := Jvm.Free.Multi.fill_facts (T.setVm vm₁) cA cy n.toNatClampNeg k.toNatClampNeg (defaultValue ty) n.toNatClampNeg
  rw [hF, hTh] at f1 f2
  have hold : ∀ x : Nat, x < H.size → F.heap[x]? = H[x]? := fun x hx => by
    have := Jvm.Free.Multi.fill_old (T.setVm vm₁) cA cy n.toNatClampNeg k.toNatClampNeg (defaultValue ty) (a := x) (by rw [hTh]; exact hx) n.toNatClampNeg
    rw [hF, hTh] at this
    exact this
  have hrow : ∀ j : Nat, j < n.toNatClampNeg → F.heap[H.size + 1 + j]? = some (vp_cell cy z) := fun j hj => by
    have := Jvm.Free.Multi.fill_inner (T.setVm vm₁) cA cy n.toNatClampNeg k.toNatClampNeg (defaultValue ty) n.toNatClampNeg j hj
    rw [hF, hTh, hz] at this
    exact this
  have hout : Jvm.Free.Multi.outerC cA n.toNatClampNeg H.size n.toNatClampNeg = vp_cell cA (n.toNatClampNeg, .inr (.inr (.inr (.inr (fun i => if i < n.toNatClampNeg then some (H.size + 1 + i) else none))))) := by
    rw [vp_cell_q]
    exact vr_outer cA n.toNatClampNeg H.size n.toNatClampNeg
  rw [hout] at f2
  have hlt : ∀ a, a ∈ L → a < H.size := fun a ha => by
    obtain ⟨k9, hk9⟩ := va_pl_get (X := X) (f := f) ha
    exact (hP k9 _ hk9).lt
  have hnl : ∀ i : Nat, i < n.toNatClampNeg → H.size + 1 + i ∉ L := fun i _ h => by
    have := hlt _ h
    omega
  have hnm : ∀ a, a ∈ (List.range n.toNatClampNeg).map (fun i => H.size + 1 + i) → a ∉ L := fun a ha h => by
    obtain ⟨i, -, rfl⟩ := List.mem_map.mp ha
    have := hlt _ h
    omega
  have hP0 : va_P D cl (X ++ va_pl L f) F.heap := hP.kept (fun k9 x hx => hold x.1 ((hP k9 x hx).lt))
  have hP1 : va_P D cl ((X ++ va_pl L f) ++ [(H.size, .inl (cA, n.toNatClampNeg, .inr (.inr (.inr (.inr (fun i => if i < n.toNatClampNeg then some (H.size + 1 + i) else none))))))]) F.heap := hP0.app (fun k9 x hx => by
    have h0 : k9 < 1 := (List.getElem?_eq_some_iff.mp hx).1
    rw [show k9 = 0 by omega] at hx
    cases hx
    exact f2)
  have hP2 : va_P D cl (((X ++ va_pl L f) ++ [(H.size, .inl (cA, n.toNatClampNeg, .inr (.inr (.inr (.inr (fun i => if i < n.toNatClampNeg then some (H.size + 1 + i) else none))))))]) ++ ((List.range n.toNatClampNeg).map (fun i => H.size + 1 + i)).map (fun a => (a, .inl (cy, z)))) F.heap := hP1.app (fun k9 x hx => by
    obtain ⟨a, ha, rfl⟩ := List.mem_map.mp (List.mem_of_getElem? hx)
    obtain ⟨i, hi, rfl⟩ := List.mem_map.mp ha
    exact hrow i (List.mem_range.mp hi))
  have hD2 : va_D A (((X ++ va_pl L f) ++ [(H.size, .inl (cA, n.toNatClampNeg, .inr (.inr (.inr (.inr (fun i => if i < n.toNatClampNeg then some (H.size + 1 + i) else none))))))]) ++ ((List.range n.toNatClampNeg).map (fun i => H.size + 1 + i)).map (fun a => (a, .inl (cy, z)))) := by
    have hD1 := hD.push (e := .inl (cA, n.toNatClampNeg, .inr (.inr (.inr (.inr (fun i => if i < n.toNatClampNeg then some (H.size + 1 + i) else none)))))) hP rfl (hA _ hS.1)
    generalize hW1 : (X ++ va_pl L f) ++ [(H.size, .inl (cA, n.toNatClampNeg, .inr (.inr (.inr (.inr (fun i => if i < n.toNatClampNeg then some (H.size + 1 + i) else none))))))] = W1 at hD1 hP1 ⊢
    have hle : ∀ (k9 : Nat) (x : Nat × va_E), W1[k9]? = some x → x.1 ≤ H.size := fun k9 x hx => by
      rw [← hW1] at hx
      by_cases hl : k9 < (X ++ va_pl L f).length
      · rw [List.getElem?_append_left hl] at hx
        exact Nat.le_of_lt ((hP k9 x hx).lt)
      · rw [List.getElem?_append_right (by omega)] at hx
        have h0 : k9 - (X ++ va_pl L f).length < 1 := (List.getElem?_eq_some_iff.mp hx).1
        rw [show k9 - (X ++ va_pl L f).length = 0 by omega] at hx
        cases hx
        exact Nat.le_refl _
    have hr : ∀ (k9 : Nat) (x : Nat × va_E), (((List.range n.toNatClampNeg).map (fun i => H.size + 1 + i)).map (fun a => ((a, .inl (cy, z)) : Nat × va_E)))[k9]? = some x → x.1 = H.size + 1 + k9 := fun k9 x hx => by
      rw [List.getElem?_map, List.getElem?_map] at hx
      by_cases h9 : k9 < n.toNatClampNeg
      · rw [List.getElem?_range h9] at hx
        cases hx
        rfl
      · have hn0 : (List.range n.toNatClampNeg)[k9]? = none := List.getElem?_eq_none (by rw [List.length_range]; omega)
        rw [hn0] at hx
        cases hx
    refine ⟨fun i j x y hi hj hxy => ?_, fun k9 x hx => ?_⟩
    · by_cases h1 : i < W1.length <;> by_cases h2 : j < W1.length
      · rw [List.getElem?_append_left h1] at hi
        rw [List.getElem?_append_left h2] at hj
        exact hD1.1 i j x y hi hj hxy
      · rw [List.getElem?_append_left h1] at hi
        rw [List.getElem?_append_right (by omega)] at hj
        have := hle _ _ hi
        have := hr _ _ hj
        omega
      · rw [List.getElem?_append_right (by omega)] at hi
        rw [List.getElem?_append_left h2] at hj
        have := hle _ _ hj
        have := hr _ _ hi
        omega
      · rw [List.getElem?_append_right (by omega)] at hi hj
        have := hr _ _ hi
        have := hr _ _ hj
        omega
    · by_cases h1 : k9 < W1.length
      · rw [List.getElem?_append_left h1] at hx
        exact hD1.2 k9 x hx
      · rw [List.getElem?_append_right (by omega)] at hx
        have := hr _ _ hx
        exact hA _ (by have := hS.1; omega)
  have hAr : ArrOfT s cA (.array ty) := fun N9 z9 => by
    obtain ⟨-, k9, hk9, cm9, hkk9⟩ := (hO 0 0 0).1
    exact ⟨(fun q hq => by cases hq), k9, hk9, cm9, hkk9⟩
  have hK2 : va_K D cl (tys ++ [(cA, .array ty)]) s := ⟨hK.1, fun k9 x hx => by
    by_cases hl : k9 < tys.length
    · rw [List.getElem?_append_left hl] at hx
      exact hK.2 k9 x hx
    · rw [List.getElem?_append_right (by omega)] at hx
      have h0 : k9 - tys.length < 1 := (List.getElem?_eq_some_iff.mp hx).1
      rw [show k9 - tys.length = 0 by omega] at hx
      cases hx
      exact ⟨hAr, fA⟩⟩
  obtain ⟨t, a1, b1⟩ := kk H.size (fun i => H.size + 1 + i) cA F.heap (fun i j _ _ h => by have h9 : H.size + 1 + i = H.size + 1 + j := h; omega) hnl hK2 (by rw [← vr_rows hnm]; exact vr_lay hP2) (by rw [← vr_rows hnm]; exact vr_layD hD2) ⟨by rw [f1]; have := hS.1; omega, fun x h1 h2 => (hold x (Nat.lt_of_lt_of_le h1 hS.1)).trans (hS.2.1 x h1 h2), hS.2.2⟩ F rfl X'
  refine ⟨t, step t ?_, b1⟩
  have e : T.heap.size = H.size := by rw [hT]
  rw [e]
  exact a1
end VGM
/-! ===== END ===== -/

/-! ===== BEGIN exceptions that leave a method, and their catching by the caller (launches without stack traces) ===== -/
section VXA
/-! The laws vx_back, vx_callV, vx_callS, vx_callSW, vx_throw0, vx_throwS follow proofs of the library, with one case more: JvmDerived/Free/Laws.lean (Back.of_free), Shelf42/LK1.lean (callV, callS), Shelf/KitTraced.lean (throwNew0V, throwNewS). -/
/-- where a method has thrown q: the class by its name, the cell, what was written, the world -/
def vx_T (XC : String → State → State → Prop) (st : State) (q : Addr) (t : State) (mc ms : Nat) (free : Addr → Prop) : Prop :=
  ∃ (E : String) (ce : Cell) (L : List Loc), XC E st t ∧ t.heap[q]? = some ce ∧ ce.vm = .none ∧ st.vm.findClass E = some ce.cls ∧ st.WarmedH t.vm ∧ st.sameButNew ({ t with vm := st.vm } : State) L mc ms ∧ ∀ z ∈ L, free z.base
def vx_Q (Qc : Array Value → State → Outcome → State → Prop) (XC : String → State → State → Prop) (mc ms : Nat) (free : Addr → Prop) : Array Value → State → Outcome → State → Prop := fun a st o t =>
  (Qc a st o t ∧ ∃ L, FrameEnd st o t L mc ms ∧ ∀ q ∈ L, free q.base) ∨ ∃ q, o = .threw q ∧ vx_T XC st q t mc ms free
/-- a callee that returns or throws -/
def vx_Met (l : Launch) (y : MethodName) (ws : List Cond) (rm : Room) (Pc : Array Value → State → Prop) (Qc : Array Value → State → Outcome → State → Prop) (XC : String → State → State → Prop) (mc ms : Nat) (free : Addr → Prop) : Prop :=
  MetFree l y (headSpec ws rm) Pc (fun _ _ _ _ _ => True) (vx_Q Qc XC mc ms free)
def vx_Post (XC : String → State → State → Prop) (mc ms : Nat) (free : Addr → Prop) : Pt → Array Value → Addr → Pt → Prop := fun A a q B =>
  ∃ (g : JFrame) (mk : MethodId) (t : State) (L : List Loc) (E : String) (ce : Cell), B.U.heap = t.heap ∧ B.U.vm = t.vm ∧ XC E (A.U.calling g mk a) t ∧ t.heap[q]? = some ce ∧ ce.vm = .none ∧ A.U.vm.findClass E = some ce.cls ∧ B.locs = A.locs ++ L ∧ (∀ z ∈ L, free z.base) ∧ B.cells = A.cells + mc ∧ B.slots = A.slots + ms
def vx_Back (l : Launch) (R : Room) (p : Program) (e : Env) (below : List Frame) (s : State) (sargs : Array Value) (y : MethodName) (len W9 : Nat)
    (Pre : Pt → Array Value → Prop) (Post : Pt → Array Value → Option Value → Pt → Prop) (PostX : Pt → Array Value → Addr → Pt → Prop) : Prop :=
  ∀ (m : MethodId) (meth : Method) (c : Code) (A : Pt) (g : JFrame) (ig : Instr) (mk : MethodId) (a : Array Value),
    Stand p l e R s m sargs below meth c A.U A.locs A.cells A.slots → g.method = m → g.locals.size = c.maxLocals → decode c.code g.pc = .ok (ig, len) →
    2 * g.monitorRoom + (g.stack.map fun v => v.category).sum ≤ W9 → A.U.methodNamed? y = some mk → Pre A a →
    (∃ (v : Option Value) (B : Pt), Stand p l e R s m sargs below meth c B.U B.locs B.cells B.slots ∧ Post A a v B ∧
      Steps p.tables e below (doInvoke e (A.U.setTop g) [] mk a).1 (B.U.setTop { g with pc := g.pc + len, stack := v.toList ++ g.stack })) ∨
    (∃ (q : Addr) (B : Pt), Stand p l e R s m sargs below meth c B.U B.locs B.cells B.slots ∧ PostX A a q B ∧
      Steps p.tables e below (doInvoke e (A.U.setTop g) [] mk a).1 ((B.U.setTop g).pushFrame (.throwing q)))
section Payer
variable {l : Launch} {R : Room} {p : Program} {e : Env} {below : List Frame} {s : State} {sargs : Array Value} {y : MethodName} {len W9 : Nat}
theorem vx_back {ws : List Cond} {rm : Room} {Pc : Array Value → State → Prop} {Qc : Array Value → State → Outcome → State → Prop} {XC : String → State → State → Prop} {mc ms : Nat} {free : Addr → Prop} {bytes : ByteArray} {maxL : Nat} {ret : Option FieldType}
    (hM : vx_Met l y ws rm Pc Qc XC mc ms free) (hblind : FrameBlind Pc) (hrc : rm.cells = mc) (hrs : rm.slots = ms)
    (hframes : rm.frames + 1 ≤ R.frames) (hlocals : W9 + (maxL + 11) + rm.locals ≤ R.locals)
    (hws : ∀ w ∈ ws, ∀ a' U, s.WarmedH U.vm → w.before a' U = true) (hcode : Cond.code y bytes maxL ret ∈ ws) (hinit : ∀ a' U, s.WarmedH U.vm → (Cond.initialized y.cls).before a' U = true) :
    vx_Back l R p e below s sargs y len W9 (PreOf R mc ms Pc) (PostOf Qc mc ms free) (vx_Post XC mc ms free) := by
  intro m meth c A g ig mk a X hg hsize hdg hW hn hp
  have h1 : (headSpec ws rm).pre.before a A.U = true := atoms_intro fun w hw => hws w hw _ _ X.warmed
  have h2 : (Cond.code y bytes maxL ret).before a A.U = true := hws _ hcode _ _ X.warmed
  have h3 : (Cond.initialized y.cls).before a A.U = true := hinit _ _ X.warmed
  have h4 : A.cells + (headSpec ws rm).room.cells ≤ R.cells := by rw [show (headSpec ws rm).room.cells = mc from hrc]; exact hp.1
  have h5 : A.slots + (headSpec ws rm).room.slots ≤ R.slots := by rw [show (headSpec ws rm).room.slots = ms from hrs]; exact hp.2.1
  have hPc : Pc a (A.U.calling g mk a) := hblind _ _ _ _ hp.2.2
  obtain ⟨U, Ls, c0, s0⟩ := A
  dsimp only [Pt.U, Pt.locs, Pt.cells, Pt.slots] at h1 h2 h3 h4 h5 X hn hPc ⊢
  obtain ⟨methY, cY, hmY, hcY, -, hlY, -, -, -, -⟩ := Cond.code_spec hn h2
  obtain ⟨kY, hkY, -⟩ := className_of_methodNamed hn
  have hinitY : kY.init = .initialized := Cond.initialized_spec (findClass_of_methodNamed hn) hkY h3
  have h : At U g.method c below := by rw [hg]; exact X.here
  have hlocals9 : W9 + (maxL + 11) + (headSpec ws rm).room.locals ≤ R.locals := hlocals
  have happ : (headSpec ws rm).appliesLoose y e.platform (U.calling g mk a) = true :=
    Spec.appliesLoose_calling (g := g) h hdg hn hkY hinitY
      (X.room_calling (g := g) (R' := (headSpec ws rm).room) hsize hmY hcY hframes (by rw [hlY]; omega) h4 h5) h1
  obtain ⟨mid, hmid⟩ := h.above
  have hfr : (U.setTop g).frames = (.java g :: mid) ++ below := by rw [State.frames_setTop' g h.top, hmid]; rfl
  obtain ⟨o, s₂, hsteps, -, hend, hq⟩ := Steps.callFree hM p X.admits X.cas X.clock (acts := []) hfr happ hPc trivial
  have hq' : vx_Q Qc XC mc ms free a (U.calling g mk a) o s₂ := hq
  rw [State.frames_setTop' g h.top] at hend
  obtain ⟨g₀, hg0⟩ := Option.isSome_iff_exists.mp h.top
  obtain ⟨r, hr⟩ := State.topJava?_eq_some.mp hg0
  have hr' : (({ U with heap := s₂.heap, slotsUsed := s₂.slotsUsed } : State).setVm s₂.vm).frames = .java g₀ :: r := hr
  rcases hq' with ⟨hqc, L, hfe, hL⟩ | ⟨q, rfl, E, ce, L, hx, hce, hcv, hcl, hW₂, hsm, hL⟩
  · obtain ⟨⟨v, rfl⟩, hW₂, e2, q2, q3, q4, q5, q6⟩ := id hfe
    have e3 : s₂ = ({ (U.calling g mk a).setFrames s₂.frames with heap := s₂.heap, slotsUsed := s₂.slotsUsed } : State).setVm s₂.vm := by
      have : s₂ = ({ s₂ with vm := (U.calling g mk a).vm } : State).setVm s₂.vm := rfl
      rw [e2] at this
      exact this
    obtain ⟨c₂, i₂, len₂, hc₂, hd₂, hf₂⟩ := hend
    have hW' : U.WarmedH s₂.vm := hW₂
    have hcc : c₂ = c := by
      have h1 : s₂.code? g.method = U.code? g.method := by
        rw [State.code?_eq, State.code?_eq, hW'.alike.method?]
      exact Option.some.inj (hc₂.symm.trans (h1.trans h.code))
    subst hcc
    have hlen : len₂ = len := by rw [hdg] at hd₂; cases hd₂; rfl
    subst hlen
    have hs₂ : s₂ = (({ U with heap := s₂.heap, slotsUsed := s₂.slotsUsed } : State).setVm s₂.vm).setTop { g with pc := g.pc + len₂, stack := v.toList ++ g.stack } := by
      refine e3.trans ?_
      rw [hf₂, State.calling_eq h.top, State.setFrames_setFrames, State.setTop_of_frames _ hr', hr]
      rfl
    have hsame : U.sameButNew ({ U with heap := s₂.heap, slotsUsed := s₂.slotsUsed } : State) L mc ms := by
      refine ⟨?_, q2, q3, q4, q5, q6⟩
      obtain ⟨t, ht, -⟩ := State.frames_cons hr
      show ({ U with heap := s₂.heap, slotsUsed := s₂.slotsUsed } : State) = { U.setFrames U.frames with heap := s₂.heap, slotsUsed := s₂.slotsUsed }
      rw [State.setFrames_self ht]
    subst hg
    refine Or.inl ⟨v, ⟨(({ U with heap := s₂.heap, slotsUsed := s₂.slotsUsed } : State).setVm s₂.vm), Ls ++ L, c0 + mc, s0 + ms⟩,
      ⟨X.admits, X.cas, X.clock, X.frames, X.room, X.hears, X.method, X.code, (X.here.setHeapUsed s₂.heap s₂.slotsUsed).setVm hW'.alike, X.tail, State.WarmedH.trans X.warmed hW', X.limits, X.bytes, X.same.trans (hsame.setVm s.vm)⟩,
      ⟨g, mk, s₂, L, rfl, rfl, hqc, rfl, hL, rfl, rfl⟩, ?_⟩
    show Steps p.tables e below _ ((({ U with heap := s₂.heap, slotsUsed := s₂.slotsUsed } : State).setVm s₂.vm).setTop { g with pc := g.pc + len₂, stack := v.toList ++ g.stack })
    rw [← hs₂]
    exact hsteps
  · obtain ⟨e2, q2, q3, q4, q5, q6⟩ := id hsm
    have e3 : s₂ = ({ (U.calling g mk a).setFrames s₂.frames with heap := s₂.heap, slotsUsed := s₂.slotsUsed } : State).setVm s₂.vm := by
      have : s₂ = ({ s₂ with vm := (U.calling g mk a).vm } : State).setVm s₂.vm := rfl
      rw [e2] at this
      exact this
    have hf₂ : s₂.frames = .throwing q :: .java g :: U.frames.tail := hend
    have hW' : U.WarmedH s₂.vm := hW₂
    have hs₂ : s₂ = ((({ U with heap := s₂.heap, slotsUsed := s₂.slotsUsed } : State).setVm s₂.vm).setTop g).pushFrame (.throwing q) := by
      refine e3.trans ?_
      rw [hf₂, State.calling_eq h.top, State.setFrames_setFrames, State.pushFrame, State.frames_setTop _ hr', State.setTop_of_frames _ hr', State.setFrames_setFrames, hr]
      rfl
    have hsame : U.sameButNew ({ U with heap := s₂.heap, slotsUsed := s₂.slotsUsed } : State) L mc ms := by
      refine ⟨?_, q2, q3, q4, q5, q6⟩
      obtain ⟨t, ht, -⟩ := State.frames_cons hr
      show ({ U with heap := s₂.heap, slotsUsed := s₂.slotsUsed } : State) = { U.setFrames U.frames with heap := s₂.heap, slotsUsed := s₂.slotsUsed }
      rw [State.setFrames_self ht]
    subst hg
    refine Or.inr ⟨q, ⟨(({ U with heap := s₂.heap, slotsUsed := s₂.slotsUsed } : State).setVm s₂.vm), Ls ++ L, c0 + mc, s0 + ms⟩,
      ⟨X.admits, X.cas, X.clock, X.frames, X.room, X.hears, X.method, X.code, (X.here.setHeapUsed s₂.heap s₂.slotsUsed).setVm hW'.alike, X.tail, State.WarmedH.trans X.warmed hW', X.limits, X.bytes, X.same.trans (hsame.setVm s.vm)⟩,
      ⟨g, mk, s₂, L, E, ce, rfl, rfl, hx, hce, hcv, hcl, rfl, hL, rfl, rfl⟩, ?_⟩
    show Steps p.tables e below _ (((({ U with heap := s₂.heap, slotsUsed := s₂.slotsUsed } : State).setVm s₂.vm).setTop g).pushFrame (.throwing q))
    rw [← hs₂]
    exact hsteps
end Payer
section Calls
variable {p : Program} {l : Launch} {e : Env} {R : Room} {s : State} {m : MethodId} {args : Array Value} {below : List Frame} {meth : Method} {c : Code} {T : State} {locs : List Loc} {cells slots : Nat}
theorem vx_callV (X : Stand p l e R s m args below meth c T locs cells slots) (hexec : p.tables.exec = Jvm.exec) {own C : String} {index : Nat} {y : MethodName} {bytes : ByteArray} {maxL : Nat} {ret : Option FieldType}
    (hown : s.vm.findClass own = some m.cls) (hlink : (Cond.methodLink own index y).before args s = true) (hinst : (Cond.instanceMethod y).before args s = true) (hsel : (Cond.selects C y y).before args s = true)
    (hcode : (Cond.code y bytes maxL ret).before args s = true) (hy : y.cls ≠ "java/lang/invoke/MethodHandle" ∧ y.cls ≠ "java/lang/invoke/VarHandle")
    {W9 : Nat} {Pre : Pt → Array Value → Prop} {Post : Pt → Array Value → Option Value → Pt → Prop} {PostX : Pt → Array Value → Addr → Pt → Prop} (hK : vx_Back l R p e below s args y 3 W9 Pre Post PostX)
    {b : Addr} {cellB : Cell} (hcell : T.heap[b]? = some cellB) (hobj : cellB.vm.isStatics = false) (hcls : s.vm.findClass C = some cellB.cls)
    {g : JFrame} (hg : g.method = m) (hsize : g.locals.size = c.maxLocals) {argsL rest : List Value} (hlen : ∀ sig, parseMethodDescriptor y.desc = some sig → argsL.length = sig.parameters.length)
    (hstack : g.stack = argsL.reverse ++ .ref b :: rest) (hW : 2 * g.monitorRoom + (rest.map fun v => v.category).sum ≤ W9) (hdg : decode c.code g.pc = .ok (.invokevirtual index, 3))
    (hpre : ∀ vm₁, s.WarmedH vm₁ → Pre ⟨T.setVm vm₁, locs, cells, slots⟩ (Value.ref b :: argsL).toArray) :
    (∃ (v : Option Value) (vm₁ : Vm) (B : Pt), s.WarmedH vm₁ ∧ Stand p l e R s m args below meth c B.U B.locs B.cells B.slots ∧ Post ⟨T.setVm vm₁, locs, cells, slots⟩ (Value.ref b :: argsL).toArray v B ∧
      ∀ target, Steps p.tables e below (B.U.setTop { g with pc := g.pc + 3, stack := v.toList ++ rest }) target → Steps p.tables e below (T.setTop g) target) ∨
    (∃ (q : Addr) (vm₁ : Vm) (B : Pt), s.WarmedH vm₁ ∧ Stand p l e R s m args below meth c B.U B.locs B.cells B.slots ∧ PostX ⟨T.setVm vm₁, locs, cells, slots⟩ (Value.ref b :: argsL).toArray q B ∧
      Steps p.tables e below (T.setTop g) ((B.U.setTop { g with stack := rest }).pushFrame (.throwing q))) := by
  obtain ⟨mk, methM, hnamed, hmethM, hstM, habM⟩ := Cond.instanceMethod_spec hinst
  obtain ⟨methM', cM, hmethM', -, -, -, -, -, -, hsigM⟩ := Cond.code_spec hnamed hcode
  cases hmethM.symm.trans hmethM'
  obtain ⟨c2, r2, m2, q1, q2, q3, q4, kP, hkP, hkPi⟩ := Cond.selects_spec hsel
  cases hcls.symm.trans q1
  cases (State.methodFound?_of_named hnamed hy).symm.trans q2
  cases hnamed.symm.trans q3
  have hselP : selectMethod e.platform s.vm cellB.cls mk = .method mk := by rw [Launch.admits_selectMethod X.admits]; exact q4
  obtain ⟨vm₁, X₁, hstep₁⟩ := X.invokevirtual hexec hown hlink hnamed hmethM hstM hkP hkPi hy (a := b) (cell := cellB) hcell
    (fun z h => by rw [h] at hobj; cases hobj) hselP hmethM habM hkP hkPi (g := g) hg (argsL := argsL) (rest := rest) (hlen _ hsigM) hstack hdg
  rcases hK m meth c ⟨T.setVm vm₁, locs, cells, slots⟩ { g with stack := rest } (.invokevirtual index) mk (Value.ref b :: argsL).toArray X₁ hg hsize hdg hW (X₁.named hnamed) (hpre vm₁ X₁.warmed) with ⟨v, B, X', hpost, hsteps⟩ | ⟨q, B, X', hpost, hsteps⟩
  · exact Or.inl ⟨v, vm₁, B, X₁.warmed, X', hpost, fun target h => hstep₁ _ fun acts => by rw [doInvoke_state]; exact hsteps.trans h⟩
  · exact Or.inr ⟨q, vm₁, B, X₁.warmed, X', hpost, hstep₁ _ fun acts => by rw [doInvoke_state]; exact hsteps⟩
theorem vx_callS (X : Stand p l e R s m args below meth c T locs cells slots) (hexec : p.tables.exec = Jvm.exec) {own : String} {index : Nat} {y : MethodName} {bytes : ByteArray} {maxL : Nat} {ret : Option FieldType}
    (hown : s.vm.findClass own = some m.cls) (hlink : (Cond.methodLink own index y).before args s = true) (hstat : (Cond.static y).before args s = true) (hinit : (Cond.initialized y.cls).before args s = true)
    (hcode : (Cond.code y bytes maxL ret).before args s = true) (hy : y.cls ≠ "java/lang/invoke/MethodHandle" ∧ y.cls ≠ "java/lang/invoke/VarHandle")
    {W9 : Nat} {Pre : Pt → Array Value → Prop} {Post : Pt → Array Value → Option Value → Pt → Prop} {PostX : Pt → Array Value → Addr → Pt → Prop} (hK : vx_Back l R p e below s args y 3 W9 Pre Post PostX)
    {g : JFrame} (hg : g.method = m) (hsize : g.locals.size = c.maxLocals) {argsL rest : List Value} (hlen : ∀ sig, parseMethodDescriptor y.desc = some sig → argsL.length = sig.parameters.length)
    (hstack : g.stack = argsL.reverse ++ rest) (hW : 2 * g.monitorRoom + (rest.map fun v => v.category).sum ≤ W9) (hdg : decode c.code g.pc = .ok (.invokestatic index, 3))
    (hpre : ∀ vm₁, s.WarmedH vm₁ → Pre ⟨T.setVm vm₁, locs, cells, slots⟩ argsL.toArray) :
    (∃ (v : Option Value) (vm₁ : Vm) (B : Pt), s.WarmedH vm₁ ∧ Stand p l e R s m args below meth c B.U B.locs B.cells B.slots ∧ Post ⟨T.setVm vm₁, locs, cells, slots⟩ argsL.toArray v B ∧
      ∀ target, Steps p.tables e below (B.U.setTop { g with pc := g.pc + 3, stack := v.toList ++ rest }) target → Steps p.tables e below (T.setTop g) target) ∨
    (∃ (q : Addr) (vm₁ : Vm) (B : Pt), s.WarmedH vm₁ ∧ Stand p l e R s m args below meth c B.U B.locs B.cells B.slots ∧ PostX ⟨T.setVm vm₁, locs, cells, slots⟩ argsL.toArray q B ∧
      Steps p.tables e below (T.setTop g) ((B.U.setTop { g with stack := rest }).pushFrame (.throwing q))) := by
  obtain ⟨mk, hnamed⟩ := Cond.code_named hcode
  obtain ⟨methM, cM, hmethM, -, -, -, -, -, -, hsigM⟩ := Cond.code_spec hnamed hcode
  have hstatic : methM.isStatic = true := Cond.static_spec hnamed hmethM hstat
  obtain ⟨kP, hkP, -⟩ := className_of_methodNamed hnamed
  have hinitP : kP.init = .initialized := Cond.initialized_spec (findClass_of_methodNamed hnamed) hkP hinit
  obtain ⟨vm₁, X₁, hstep₁⟩ := X.invokestatic hexec hown hlink hnamed hmethM hstatic hkP hinitP hy (g := g) hg (argsL := argsL) (rest := rest) (hlen _ hsigM) hstack hdg
  rcases hK m meth c ⟨T.setVm vm₁, locs, cells, slots⟩ { g with stack := rest } (.invokestatic index) mk argsL.toArray X₁ hg hsize hdg hW (X₁.named hnamed) (hpre vm₁ X₁.warmed) with ⟨v, B, X', hpost, hsteps⟩ | ⟨q, B, X', hpost, hsteps⟩
  · exact Or.inl ⟨v, vm₁, B, X₁.warmed, X', hpost, fun target h => hstep₁ _ fun acts => by rw [doInvoke_state]; exact hsteps.trans h⟩
  · exact Or.inr ⟨q, vm₁, B, X₁.warmed, X', hpost, hstep₁ _ fun acts => by rw [doInvoke_state]; exact hsteps⟩
end Calls
theorem vx_cls {s : State} {T : State} {vm₁ : Vm} {E : String} {k : ClassId} (hW : s.WarmedH vm₁) (h : (T.setVm vm₁).vm.findClass E = some k) : s.vm.findClass E = some k := by
  have h1 : vm₁.findClass E = some k := h
  rw [hW.alike.findClass] at h1
  exact h1
/-- the method's frame g, with q thrown over it -/
def vx_W (p : Program) (l : Launch) (e : Env) (R : Room) (s : State) (m : MethodId) (args : Array Value) (below : List Frame) (meth : Method) (c : Code) (H : Heap) (locs : List Loc) (cells slots : Nat) (Q : State → Prop) (g : JFrame) (q : Addr) : Prop :=
  ∀ T : State, T.heap = H → Stand p l e R s m args below meth c T locs cells slots → ∃ t, Steps p.tables e below ((T.setTop g).pushFrame (.throwing q)) t ∧ Q t
def vx_Run (p : Program) (l : Launch) (e : Env) (R : Room) (s : State) (m : MethodId) (args : Array Value) (below : List Frame) (meth : Method) (c : Code) (H : Heap) (locs : List Loc) (cells slots mc ms : Nat) (g : JFrame) (rest : List Value) (Qa : State → Outcome → State → Prop) (XC : String → State → State → Prop) (free : Addr → Prop) : Prop :=
  ∀ T : State, T.heap = H → Stand p l e R s m args below meth c T locs cells slots →
    (∃ (v : Option Value) (st₀ t T' : State) (L : List Loc), st₀.heap = H ∧ Stand p l e R s m args below meth c T' (locs ++ L) (cells + mc) (slots + ms) ∧ (∀ q ∈ L, free q.base) ∧ T'.heap = t.heap ∧ T'.vm = t.vm ∧ Qa st₀ (.returned v) t ∧
      Goes p e below T g T' { g with pc := g.pc + 3, stack := v.toList ++ rest }) ∨
    (∃ (q : Addr) (st₀ t T' : State) (L : List Loc) (E : String) (ce : Cell), st₀.heap = H ∧ Stand p l e R s m args below meth c T' (locs ++ L) (cells + mc) (slots + ms) ∧ (∀ z ∈ L, free z.base) ∧ T'.heap = t.heap ∧ T'.vm = t.vm ∧ XC E st₀ t ∧ t.heap[q]? = some ce ∧ ce.vm = .none ∧ s.vm.findClass E = some ce.cls ∧
      Steps p.tables e below (T.setTop g) ((T'.setTop { g with stack := rest }).pushFrame (.throwing q)))
def vx_X {S : Type} (px : S → Prop) (B : String → S → State → Prop) (A : Nat → Prop) : String → State → State → Prop := fun E st t => ∃ u : S, px u ∧ B E u t ∧ va_F A st t
section Runs
variable {p : Program} {l : Launch} {e : Env} {R : Room} {s : State} {m : MethodId} {args : Array Value} {below : List Frame} {meth : Method} {c : Code} {H : Heap} {locs : List Loc} {cells slots : Nat}
variable {y : MethodName} {bytes cc : ByteArray} {maxL nL mc ms n index : Nat} {ret : Option FieldType} {ws : List Cond} {rm : Room} {Pc : Array Value → State → Prop} {Qc : Array Value → State → Outcome → State → Prop} {XC : String → State → State → Prop} {free : Addr → Prop} {Ts : List Cond} {own C : String} {b : Addr} {As rest : List Value} {g : JFrame}
theorem vx_callBack (cb : CallB R s args own index y bytes maxL ret ws rm mc ms n) (hM : vx_Met l y ws rm Pc Qc XC mc ms free) (hbl : FrameBlind Pc) : vx_Back l R p e below s args y 3 8 (PreOf R mc ms Pc) (PostOf Qc mc ms free) (vx_Post XC mc ms free) := by
  obtain ⟨hrc, hrs, hfr, hlo, hws, hcw, -, hini, -⟩ := cb
  exact vx_back (bytes := bytes) (maxL := maxL) (ret := ret) hM hbl hrc hrs hfr hlo hws hcw (fun a' U hW => word_at hW (Or.inl (by first | rfl | simp [Cond.onTables, Cond.keeps, Cond.steady])) hini)
theorem vx_runV (S : CallFix p m c cc nL s args Ts own) (hM : vx_Met l y ws rm Pc Qc XC mc ms free) (cw : CallW R s args own C index y bytes maxL ret ws rm mc ms n) (hp : PreV s H C b Pc As)
    (hg : g.method = m) (hn : As.length = n) (hsize : g.locals.size = nL) (hstack : g.stack = As.reverse ++ .ref b :: rest) (hW : 2 * g.monitorRoom + (rest.map fun v => v.category).sum ≤ 8) (hdg : decode cc g.pc = .ok (.invokevirtual index, 3)) (hf : cells + mc ≤ R.cells ∧ slots + ms ≤ R.slots) :
    vx_Run p l e R s m args below meth c H locs cells slots mc ms g rest (Qc (Value.ref b :: As).toArray) XC free := by
  have hK : vx_Back l R p e below s args y 3 8 (PreOf R mc ms Pc) (PostOf Qc mc ms free) (vx_Post XC mc ms free) := vx_callBack cw.1 hM hp.1
  obtain ⟨⟨-, -, -, -, -, -, hcode, -, hy, hlen, hl⟩, hin, hse⟩ := cw
  obtain ⟨hx, hb, hml, ho, -⟩ := S
  obtain ⟨-, ⟨cellB, hcB, hoB, hclB⟩, hPc⟩ := hp
  intro T hT X
  rcases vx_callV X hx (C := C) (bytes := bytes) (maxL := maxL) (ret := ret) ho hl hin hse hcode hy hK (by rw [hT]; exact hcB) hoB hclB hg (hsize.trans hml.symm) (argsL := As) (rest := rest) (fun sig h => hn.trans (hlen sig h)) hstack hW (by rw [hb]; exact hdg)
    (fun vm₁ hW₁ => ⟨hf.1, hf.2, hPc (T.setVm vm₁) hT hW₁⟩) with ⟨v, vm₁, ⟨U', l2, c2, s2⟩, hW₁, X', ⟨g', mk, t, L, e1, e2, hq, h1, hL, h2, h3⟩, st⟩ | ⟨q, vm₁, ⟨U', l2, c2, s2⟩, hW₁, X', ⟨g', mk, t, L, E, ce, e1, e2, hq, hce, hcv, hcl, h1, hL, h2, h3⟩, st⟩
  · dsimp only [Pt.U, Pt.locs, Pt.cells, Pt.slots] at X' e1 e2 h1 h2 h3 st
    subst h1; subst h2; subst h3
    exact Or.inl ⟨v, (T.setVm vm₁).calling g' mk (Value.ref b :: As).toArray, t, U', L, hT, X', hL, e1, e2, hq, st⟩
  · dsimp only [Pt.U, Pt.locs, Pt.cells, Pt.slots] at X' e1 e2 h1 h2 h3 st hcl
    subst h1; subst h2; subst h3
    exact Or.inr ⟨q, (T.setVm vm₁).calling g' mk (Value.ref b :: As).toArray, t, U', L, E, ce, hT, X', hL, e1, e2, hq, hce, hcv, vx_cls hW₁ hcl, st⟩
theorem vx_runS (S : CallFix p m c cc nL s args Ts own) (hM : vx_Met l y ws rm Pc Qc XC mc ms free) (cw : CallB R s args own index y bytes maxL ret ws rm mc ms n ∧ (Cond.static y).before args s = true) (hp : PreS s H Pc As)
    (hg : g.method = m) (hn : As.length = n) (hsize : g.locals.size = nL) (hstack : g.stack = As.reverse ++ rest) (hW : 2 * g.monitorRoom + (rest.map fun v => v.category).sum ≤ 8) (hdg : decode cc g.pc = .ok (.invokestatic index, 3)) (hf : cells + mc ≤ R.cells ∧ slots + ms ≤ R.slots) :
    vx_Run p l e R s m args below meth c H locs cells slots mc ms g rest (Qc As.toArray) XC free := by
  have hK : vx_Back l R p e below s args y 3 8 (PreOf R mc ms Pc) (PostOf Qc mc ms free) (vx_Post XC mc ms free) := vx_callBack cw.1 hM hp.1
  obtain ⟨⟨-, -, -, -, -, -, hcode, hini, hy, hlen, hl⟩, hstt⟩ := cw
  obtain ⟨hx, hb, hml, ho, -⟩ := S
  intro T hT X
  rcases vx_callS X hx (bytes := bytes) (maxL := maxL) (ret := ret) ho hl hstt hini hcode hy hK hg (hsize.trans hml.symm) (argsL := As) (rest := rest) (fun sig h => hn.trans (hlen sig h)) hstack hW (by rw [hb]; exact hdg)
    (fun vm₁ hW₁ => ⟨hf.1, hf.2, hp.2 (T.setVm vm₁) hT hW₁⟩) with ⟨v, vm₁, ⟨U', l2, c2, s2⟩, hW₁, X', ⟨g', mk, t, L, e1, e2, hq, h1, hL, h2, h3⟩, st⟩ | ⟨q, vm₁, ⟨U', l2, c2, s2⟩, hW₁, X', ⟨g', mk, t, L, E, ce, e1, e2, hq, hce, hcv, hcl, h1, hL, h2, h3⟩, st⟩
  · dsimp only [Pt.U, Pt.locs, Pt.cells, Pt.slots] at X' e1 e2 h1 h2 h3 st
    subst h1; subst h2; subst h3
    exact Or.inl ⟨v, (T.setVm vm₁).calling g' mk As.toArray, t, U', L, hT, X', hL, e1, e2, hq, st⟩
  · dsimp only [Pt.U, Pt.locs, Pt.cells, Pt.slots] at X' e1 e2 h1 h2 h3 st hcl
    subst h1; subst h2; subst h3
    exact Or.inr ⟨q, (T.setVm vm₁).calling g' mk As.toArray, t, U', L, E, ce, hT, X', hL, e1, e2, hq, hce, hcv, vx_cls hW₁ hcl, st⟩
end Runs
section Rows
variable {p : Program} {l : Launch} {e : Env} {R : Room} {s : State} {m : MethodId} {args : Array Value} {below : List Frame} {meth : Method} {c : Code} {H : Heap} {locs : List Loc} {cells slots : Nat} {Q : State → Prop}
variable {mc ms : Nat} {free : Addr → Prop} {A0 A1 : Nat → Prop} {H0 : Heap} {a : Array Value} {pc : Nat} {ls : Array Slot} {st0 rest : List Value}
theorem vx_keep {st₀ t T' : State} {L : List Loc} (h0 : st₀.heap = H) (e1 : T'.heap = t.heap) (hS : va_S A0 H0 H locs) (hA : ∀ q, q < H.size → A1 q → A0 q) (hf : ∀ q, free q → A0 q) (hL : ∀ q ∈ L, free q.base) (hF : va_F A1 st₀ t) :
    H.size ≤ T'.heap.size ∧ (∀ q : Nat, q < H.size → ¬ A1 q → T'.heap[q]? = H[q]?) ∧ va_S A0 H0 T'.heap (locs ++ L) := by
  obtain ⟨hz, hk⟩ := hF
  rw [h0] at hz hk
  exact ⟨by rw [e1]; exact hz, fun q h1 h2 => by rw [e1]; exact hk q h1 h2,
    ⟨Nat.le_trans hS.1 (by rw [e1]; exact hz), fun q h1 h2 => by rw [e1, hk q (Nat.lt_of_lt_of_le h1 hS.1) (fun z => h2 (hA q (Nat.lt_of_lt_of_le h1 hS.1) z))]; exact hS.2.1 q h1 h2, fun q hq => by
      rcases List.mem_append.mp hq with h | h
      · exact hS.2.2 q h
      · exact hf _ (hL q h)⟩⟩
theorem vx_calli {S SX : Type} {post : Int32 → S → Prop} {px : SX → Prop} {B : S → State → Prop} {BX : String → SX → State → Prop} {AX : Nat → Prop} (hr : vx_Run p l e R s m args below meth c H locs cells slots mc ms (F0 m pc ls st0) rest (va_Qi post B A1 a) (vx_X px BX AX) free) (hS : va_S A0 H0 H locs) (hA : ∀ q, q < H.size → A1 q → A0 q) (hf : ∀ q, free q → A0 q) (hAX : ∀ q, q < H.size → AX q → A0 q)
    (kx : ∀ (E : String) (ce : Cell) (q9 : Addr) (u : SX) (t : State) (H1 : Heap) (locs1 : List Loc), t.heap = H1 → s.vm.Alike t.vm → px u → BX E u t → H.size ≤ H1.size → (∀ q : Nat, q < H.size → ¬ AX q → H1[q]? = H[q]?) → va_S A0 H0 H1 locs1 → H1[q9]? = some ce → ce.vm = .none → s.vm.findClass E = some ce.cls → vx_W p l e R s m args below meth c H1 locs1 (cells + mc) (slots + ms) Q (F0 m pc ls rest) q9)
    (kk : ∀ (r : Int32) (u : S) (t : State) (H1 : Heap) (locs1 : List Loc), t.heap = H1 → s.vm.Alike t.vm → post r u → B u t → H.size ≤ H1.size → (∀ q : Nat, q < H.size → ¬ A1 q → H1[q]? = H[q]?) → va_S A0 H0 H1 locs1 → W p l e R s m args below meth c H1 locs1 (cells + mc) (slots + ms) Q (F0 m (pc + 3) ls (.int r :: rest))) : W p l e R s m args below meth c H locs cells slots Q (F0 m pc ls st0) := by
  intro T hT X
  rcases hr T hT X with ⟨v, st₀, t, T', L, h0, X', hL, e1, e2, ⟨⟨r, u, hv, hp, hb⟩, hF⟩, st⟩ | ⟨q, st₀, t, T', L, E, ce, h0, X', hL, e1, e2, ⟨u, hp, hb, hF⟩, hce, hcv, hcl, st⟩
  · cases hv
    obtain ⟨k1, k2, k3⟩ := vx_keep h0 e1 hS hA hf hL hF
    obtain ⟨t2, a1, b1⟩ := kk r u t T'.heap (locs ++ L) e1.symm (by rw [← e2]; exact X'.warmed.alike) hp hb k1 k2 k3 T' rfl X'
    exact ⟨t2, st t2 a1, b1⟩
  · obtain ⟨k1, k2, k3⟩ := vx_keep h0 e1 hS hAX hf hL hF
    obtain ⟨t2, a1, b1⟩ := kx E ce q u t T'.heap (locs ++ L) e1.symm (by rw [← e2]; exact X'.warmed.alike) hp hb k1 k2 k3 (by rw [e1]; exact hce) hcv hcl T' rfl X'
    exact ⟨t2, st.trans a1, b1⟩
theorem vx_calll {S SX : Type} {post : Int64 → S → Prop} {px : SX → Prop} {B : S → State → Prop} {BX : String → SX → State → Prop} {AX : Nat → Prop} (hr : vx_Run p l e R s m args below meth c H locs cells slots mc ms (F0 m pc ls st0) rest (va_Ql post B A1 a) (vx_X px BX AX) free) (hS : va_S A0 H0 H locs) (hA : ∀ q, q < H.size → A1 q → A0 q) (hf : ∀ q, free q → A0 q) (hAX : ∀ q, q < H.size → AX q → A0 q)
    (kx : ∀ (E : String) (ce : Cell) (q9 : Addr) (u : SX) (t : State) (H1 : Heap) (locs1 : List Loc), t.heap = H1 → s.vm.Alike t.vm → px u → BX E u t → H.size ≤ H1.size → (∀ q : Nat, q < H.size → ¬ AX q → H1[q]? = H[q]?) → va_S A0 H0 H1 locs1 → H1[q9]? = some ce → ce.vm = .none → s.vm.findClass E = some ce.cls → vx_W p l e R s m args below meth c H1 locs1 (cells + mc) (slots + ms) Q (F0 m pc ls rest) q9)
    (kk : ∀ (r : Int64) (u : S) (t : State) (H1 : Heap) (locs1 : List Loc), t.heap = H1 → s.vm.Alike t.vm → post r u → B u t → H.size ≤ H1.size → (∀ q : Nat, q < H.size → ¬ A1 q → H1[q]? = H[q]?) → va_S A0 H0 H1 locs1 → W p l e R s m args below meth c H1 locs1 (cells + mc) (slots + ms) Q (F0 m (pc + 3) ls (.long r :: rest))) : W p l e R s m args below meth c H locs cells slots Q (F0 m pc ls st0) := by
  intro T hT X
  rcases hr T hT X with ⟨v, st₀, t, T', L, h0, X', hL, e1, e2, ⟨⟨r, u, hv, hp, hb⟩, hF⟩, st⟩ | ⟨q, st₀, t, T', L, E, ce, h0, X', hL, e1, e2, ⟨u, hp, hb, hF⟩, hce, hcv, hcl, st⟩
  · cases hv
    obtain ⟨k1, k2, k3⟩ := vx_keep h0 e1 hS hA hf hL hF
    obtain ⟨t2, a1, b1⟩ := kk r u t T'.heap (locs ++ L) e1.symm (by rw [← e2]; exact X'.warmed.alike) hp hb k1 k2 k3 T' rfl X'
    exact ⟨t2, st t2 a1, b1⟩
  · obtain ⟨k1, k2, k3⟩ := vx_keep h0 e1 hS hAX hf hL hF
    obtain ⟨t2, a1, b1⟩ := kx E ce q u t T'.heap (locs ++ L) e1.symm (by rw [← e2]; exact X'.warmed.alike) hp hb k1 k2 k3 (by rw [e1]; exact hce) hcv hcl T' rfl X'
    exact ⟨t2, st.trans a1, b1⟩
theorem vx_callf {S SX : Type} {post : UInt32 → S → Prop} {px : SX → Prop} {B : S → State → Prop} {BX : String → SX → State → Prop} {AX : Nat → Prop} (hr : vx_Run p l e R s m args below meth c H locs cells slots mc ms (F0 m pc ls st0) rest (va_Qf post B A1 a) (vx_X px BX AX) free) (hS : va_S A0 H0 H locs) (hA : ∀ q, q < H.size → A1 q → A0 q) (hf : ∀ q, free q → A0 q) (hAX : ∀ q, q < H.size → AX q → A0 q)
    (kx : ∀ (E : String) (ce : Cell) (q9 : Addr) (u : SX) (t : State) (H1 : Heap) (locs1 : List Loc), t.heap = H1 → s.vm.Alike t.vm → px u → BX E u t → H.size ≤ H1.size → (∀ q : Nat, q < H.size → ¬ AX q → H1[q]? = H[q]?) → va_S A0 H0 H1 locs1 → H1[q9]? = some ce → ce.vm = .none → s.vm.findClass E = some ce.cls → vx_W p l e R s m args below meth c H1 locs1 (cells + mc) (slots + ms) Q (F0 m pc ls rest) q9)
    (kk : ∀ (r : UInt32) (u : S) (t : State) (H1 : Heap) (locs1 : List Loc), t.heap = H1 → s.vm.Alike t.vm → post r u → B u t → H.size ≤ H1.size → (∀ q : Nat, q < H.size → ¬ A1 q → H1[q]? = H[q]?) → va_S A0 H0 H1 locs1 → W p l e R s m args below meth c H1 locs1 (cells + mc) (slots + ms) Q (F0 m (pc + 3) ls (.float r :: rest))) : W p l e R s m args below meth c H locs cells slots Q (F0 m pc ls st0) := by
  intro T hT X
  rcases hr T hT X with ⟨v, st₀, t, T', L, h0, X', hL, e1, e2, ⟨⟨r, u, hv, hp, hb⟩, hF⟩, st⟩ | ⟨q, st₀, t, T', L, E, ce, h0, X', hL, e1, e2, ⟨u, hp, hb, hF⟩, hce, hcv, hcl, st⟩
  · cases hv
    obtain ⟨k1, k2, k3⟩ := vx_keep h0 e1 hS hA hf hL hF
    obtain ⟨t2, a1, b1⟩ := kk r u t T'.heap (locs ++ L) e1.symm (by rw [← e2]; exact X'.warmed.alike) hp hb k1 k2 k3 T' rfl X'
    exact ⟨t2, st t2 a1, b1⟩
  · obtain ⟨k1, k2, k3⟩ := vx_keep h0 e1 hS hAX hf hL hF
    obtain ⟨t2, a1, b1⟩ := kx E ce q u t T'.heap (locs ++ L) e1.symm (by rw [← e2]; exact X'.warmed.alike) hp hb k1 k2 k3 (by rw [e1]; exact hce) hcv hcl T' rfl X'
    exact ⟨t2, st.trans a1, b1⟩
theorem vx_calld {S SX : Type} {post : UInt64 → S → Prop} {px : SX → Prop} {B : S → State → Prop} {BX : String → SX → State → Prop} {AX : Nat → Prop} (hr : vx_Run p l e R s m args below meth c H locs cells slots mc ms (F0 m pc ls st0) rest (va_Qd post B A1 a) (vx_X px BX AX) free) (hS : va_S A0 H0 H locs) (hA : ∀ q, q < H.size → A1 q → A0 q) (hf : ∀ q, free q → A0 q) (hAX : ∀ q, q < H.size → AX q → A0 q)
    (kx : ∀ (E : String) (ce : Cell) (q9 : Addr) (u : SX) (t : State) (H1 : Heap) (locs1 : List Loc), t.heap = H1 → s.vm.Alike t.vm → px u → BX E u t → H.size ≤ H1.size → (∀ q : Nat, q < H.size → ¬ AX q → H1[q]? = H[q]?) → va_S A0 H0 H1 locs1 → H1[q9]? = some ce → ce.vm = .none → s.vm.findClass E = some ce.cls → vx_W p l e R s m args below meth c H1 locs1 (cells + mc) (slots + ms) Q (F0 m pc ls rest) q9)
    (kk : ∀ (r : UInt64) (u : S) (t : State) (H1 : Heap) (locs1 : List Loc), t.heap = H1 → s.vm.Alike t.vm → post r u → B u t → H.size ≤ H1.size → (∀ q : Nat, q < H.size → ¬ A1 q → H1[q]? = H[q]?) → va_S A0 H0 H1 locs1 → W p l e R s m args below meth c H1 locs1 (cells + mc) (slots + ms) Q (F0 m (pc + 3) ls (.double r :: rest))) : W p l e R s m args below meth c H locs cells slots Q (F0 m pc ls st0) := by
  intro T hT X
  rcases hr T hT X with ⟨v, st₀, t, T', L, h0, X', hL, e1, e2, ⟨⟨r, u, hv, hp, hb⟩, hF⟩, st⟩ | ⟨q, st₀, t, T', L, E, ce, h0, X', hL, e1, e2, ⟨u, hp, hb, hF⟩, hce, hcv, hcl, st⟩
  · cases hv
    obtain ⟨k1, k2, k3⟩ := vx_keep h0 e1 hS hA hf hL hF
    obtain ⟨t2, a1, b1⟩ := kk r u t T'.heap (locs ++ L) e1.symm (by rw [← e2]; exact X'.warmed.alike) hp hb k1 k2 k3 T' rfl X'
    exact ⟨t2, st t2 a1, b1⟩
  · obtain ⟨k1, k2, k3⟩ := vx_keep h0 e1 hS hAX hf hL hF
    obtain ⟨t2, a1, b1⟩ := kx E ce q u t T'.heap (locs ++ L) e1.symm (by rw [← e2]; exact X'.warmed.alike) hp hb k1 k2 k3 (by rw [e1]; exact hce) hcv hcl T' rfl X'
    exact ⟨t2, st.trans a1, b1⟩
theorem vx_callv {S SX : Type} {post : S → Prop} {px : SX → Prop} {B : S → State → Prop} {BX : String → SX → State → Prop} {AX : Nat → Prop} (hr : vx_Run p l e R s m args below meth c H locs cells slots mc ms (F0 m pc ls st0) rest (va_Qv post B A1 a) (vx_X px BX AX) free) (hS : va_S A0 H0 H locs) (hA : ∀ q, q < H.size → A1 q → A0 q) (hf : ∀ q, free q → A0 q) (hAX : ∀ q, q < H.size → AX q → A0 q)
    (kx : ∀ (E : String) (ce : Cell) (q9 : Addr) (u : SX) (t : State) (H1 : Heap) (locs1 : List Loc), t.heap = H1 → s.vm.Alike t.vm → px u → BX E u t → H.size ≤ H1.size → (∀ q : Nat, q < H.size → ¬ AX q → H1[q]? = H[q]?) → va_S A0 H0 H1 locs1 → H1[q9]? = some ce → ce.vm = .none → s.vm.findClass E = some ce.cls → vx_W p l e R s m args below meth c H1 locs1 (cells + mc) (slots + ms) Q (F0 m pc ls rest) q9)
    (kk : ∀ (u : S) (t : State) (H1 : Heap) (locs1 : List Loc), t.heap = H1 → s.vm.Alike t.vm → post u → B u t → H.size ≤ H1.size → (∀ q : Nat, q < H.size → ¬ A1 q → H1[q]? = H[q]?) → va_S A0 H0 H1 locs1 → W p l e R s m args below meth c H1 locs1 (cells + mc) (slots + ms) Q (F0 m (pc + 3) ls (rest))) : W p l e R s m args below meth c H locs cells slots Q (F0 m pc ls st0) := by
  intro T hT X
  rcases hr T hT X with ⟨v, st₀, t, T', L, h0, X', hL, e1, e2, ⟨⟨u, hv, hp, hb⟩, hF⟩, st⟩ | ⟨q, st₀, t, T', L, E, ce, h0, X', hL, e1, e2, ⟨u, hp, hb, hF⟩, hce, hcv, hcl, st⟩
  · cases hv
    obtain ⟨k1, k2, k3⟩ := vx_keep h0 e1 hS hA hf hL hF
    obtain ⟨t2, a1, b1⟩ := kk u t T'.heap (locs ++ L) e1.symm (by rw [← e2]; exact X'.warmed.alike) hp hb k1 k2 k3 T' rfl X'
    exact ⟨t2, st t2 a1, b1⟩
  · obtain ⟨k1, k2, k3⟩ := vx_keep h0 e1 hS hAX hf hL hF
    obtain ⟨t2, a1, b1⟩ := kx E ce q u t T'.heap (locs ++ L) e1.symm (by rw [← e2]; exact X'.warmed.alike) hp hb k1 k2 k3 (by rw [e1]; exact hce) hcv hcl T' rfl X'
    exact ⟨t2, st.trans a1, b1⟩
/-- caught by the row x of this method's table; the rows ahead don't take it -/
theorem vx_catch {own name : String} {E : String} {ce : Cell} {q : Addr} (hown : s.vm.findClass own = some m.cls) (pre : List ExceptionTableEntry) (x : ExceptionTableEntry) (suf : List ExceptionTableEntry) (hsplit : c.exceptionTable.toList = pre ++ x :: suf)
    (hpass : ∀ z ∈ pre, covers z pc = false ∨ (z.catchType ≠ 0 ∧ ∃ nm : String, (Cond.classLink own z.catchType nm).before args s = true ∧ va_Nc E nm s)) (hx : covers x pc = true) (h0 : x.catchType ≠ 0)
    (hlink : (Cond.classLink own x.catchType name).before args s = true) (hcast : (Cond.castable E name).before args s = true) (hcell : H[q]? = some ce) (hv : ce.vm = .none) (hcl : s.vm.findClass E = some ce.cls)
    (kk : W p l e R s m args below meth c H locs cells slots Q (F0 m x.handlerPc ls [.ref q])) : vx_W p l e R s m args below meth c H locs cells slots Q (F0 m pc ls rest) q := by
  intro T hT X
  have hpl : e.platform.magicAccessors = ({} : Platform).magicAccessors := by rw [X.admits.platform]
  obtain ⟨c3, c4, hc3, hc4, hasg⟩ := Cond.castable_spec hcast
  cases Option.some.inj (hc3.symm.trans hcl)
  obtain ⟨c5, hc5, hcl5⟩ := Cond.classLink_spec hown hlink e.platform hpl
  cases Option.some.inj (hc4.symm.trans hc5)
  obtain ⟨vm', X', st⟩ := X.thenCaughtThrough q (g := F0 m pc ls rest) rfl (Steps.refl _) (by rw [hT]; exact hcell) (by rw [hv]; rfl) (by obtain ⟨k9, h9, -⟩ := Vm.findClass_spec hcl; exact ⟨k9, h9⟩) pre x suf hsplit
    (fun z hz => by
      rcases hpass z hz with h | ⟨hz0, nm, hl1, hn1⟩
      · exact Or.inl h
      · obtain ⟨c6, hc6, hcl6⟩ := Cond.classLink_spec hown hl1 e.platform hpl
        obtain ⟨a8, b8, h1, h2, h3⟩ := hn1
        cases Option.some.inj (h1.symm.trans hcl)
        cases Option.some.inj (h2.symm.trans hc6)
        exact Or.inr ⟨hz0, _, hcl6, h3⟩) hx (Or.inr ⟨h0, c4, hcl5, hasg⟩)
  obtain ⟨t, a1, b1⟩ := kk (T.setVm vm') hT X'
  exact ⟨t, st.trans a1, b1⟩
end Rows
section Ends
variable {p : Program} {l : Launch} {e : Env} {R : Room} {s : State} {m : MethodId} {args : Array Value} {below : List Frame} {meth : Method} {c : Code} {H : Heap} {locs : List Loc} {cells slots : Nat} {Q : State → Prop}
variable {mc ms : Nat} {free : Addr → Prop} {A0 A1 : Nat → Prop} {H0 : Heap} {a : Array Value} {ls : Array Slot} {st0 rest : List Value}
variable {Qc : Array Value → State → Outcome → State → Prop} {XC : String → State → State → Prop}
/-- what a body that may throw owes at its end -/
def vx_MQ (below : List Frame) (Qc : Array Value → State → Outcome → State → Prop) (XC : String → State → State → Prop) (a : Array Value) (s : State) (mc ms : Nat) (free : Addr → Prop) : State → Prop := fun t =>
  ∃ o, t.status = .running ∧ Ended t below o ∧ vx_Q Qc XC mc ms free a s o t
theorem vx_ret {g : JFrame} {mc ms : Nat} (k : W p l e R s m args below meth c H locs cells slots (MQ below Qc args s mc ms free) g) : W p l e R s m args below meth c H locs cells slots (vx_MQ below Qc XC args s mc ms free) g := by
  intro T hT X
  obtain ⟨t, a1, o, b1, b2, b3, b4⟩ := k T hT X
  exact ⟨t, a1, o, b1, b2, Or.inl ⟨b3, b4⟩⟩
/-- not caught here: it goes on to the caller -/
theorem vx_widen {g : JFrame} {q : Addr} {k n : Nat} (h1 : cells ≤ k) (h2 : slots ≤ n) (kk : vx_W p l e R s m args below meth c H locs k n Q g q) : vx_W p l e R s m args below meth c H locs cells slots Q g q := fun T hT X => kk T hT (stand_widen X h1 h2)
theorem vx_out {pc : Nat} {E : String} {ce : Cell} {q : Addr} {mc ms : Nat} (hout : ∀ x ∈ c.exceptionTable.toList, covers x pc = false) (hlocks : meth.locks = false) (hcell : H[q]? = some ce) (hv : ce.vm = .none) (hcl : s.vm.findClass E = some ce.cls)
    (hx : ∀ t : State, t.heap = H → s.vm.Alike t.vm → XC E s t) (hf : ∀ z ∈ locs, free z.base) (hc : cells ≤ mc) (hs : slots ≤ ms) :
    vx_W p l e R s m args below meth c H locs cells slots (vx_MQ below Qc XC args s mc ms free) (F0 m pc ls rest) q := by
  intro T hT X
  obtain ⟨st1, hrun, hend, hW, hsm⟩ := X.leaveThrown q (g := F0 m pc ls rest) rfl rfl rfl hout hlocks
  have hcell9 : (T.setFrames (.throwing q :: below)).heap[q]? = some ce := by
    show T.heap[q]? = some ce
    rw [hT]; exact hcell
  exact ⟨_, st1, .threw q, hrun, hend, Or.inr ⟨q, rfl, E, ce, locs, hx _ hT hW.alike, hcell9, hv, hcl, hW, hsm.mono hc hs, hf⟩⟩
theorem vx_frame {U : State} {k n : Nat} (h : s.sameButNew ({ U with vm := s.vm } : State) locs k n) : s.heap.size ≤ U.heap.size ∧ ∀ q : Nat, q < s.heap.size → (∀ z ∈ locs, z.base ≠ q) → U.heap[q]? = s.heap[q]? := by
  obtain ⟨-, h2, -, -, -, h6⟩ := h
  refine ⟨h2, fun q hq hz => ?_⟩
  obtain ⟨c9, e1, e2, e3, e4⟩ := h6 q _ (Array.getElem?_eq_getElem hq)
  have hs : c9.slots = (s.heap[q]).slots := Array.ext_getElem? fun i => e4 i fun hm => hz _ hm rfl
  have h9 : c9 = s.heap[q] := by
    rw [hs] at e2
    exact e2
  have e5 : U.heap[q]? = some c9 := e1
  rw [e5, h9, Array.getElem?_eq_getElem hq]
/-- the words of a throw but the four that speak of the heap -/
def vx_no (w : Cond) : Bool := decide (w ≠ .isRef (.static Bundle.tN "UNASSIGNED_STACK" Bundle.steD)) && decide (w ≠ .isRef (.static Bundle.tN "SUPPRESSED_SENTINEL" Bundle.listD)) && decide (w ≠ .laysStatic Bundle.tN "UNASSIGNED_STACK" Bundle.steD) && decide (w ≠ .laysStatic Bundle.tN "SUPPRESSED_SENTINEL" Bundle.listD)
def vx_at0 (own : String) (ic : Nat) (X : String) (names : List String) : List Cond := (Bundle.ownAtoms0 own ic X names).filter vx_no
def vx_atS (own : String) (ic : Nat) (X : String) (names : List String) : List Cond := (Bundle.ownAtoms own ic X names).filter vx_no
/-- a word that the tables alone decide, or a good one -/
def vx_ot (w : Cond) : Bool := w.onTables || goodWord w
theorem vx_ot_at {args a' : Array Value} {s U : State} {w : Cond} (hW : s.WarmedH U.vm) (hvm : s.vm = U.vm) (hg : vx_ot w = true) (h : w.before args s = true) : w.before a' U = true := by
  simp only [vx_ot, Bool.or_eq_true] at hg
  rcases hg with hg | hg
  · exact va_tabs hg hvm h
  · exact word_at hW (good_of_word hg) h
/-- a list's words: the good ones out of the method's own list, the others by premises of their own -/
theorem vx_hat {args : Array Value} {s : State} {L B : List Cond} (h1 : ∀ w ∈ L.filter goodWord, w.before args s = true) (h2 : ∀ w ∈ L.filter (fun w => !goodWord w), w ∈ B) (h3 : ∀ w ∈ B, w.before args s = true) : ∀ w ∈ L, w.before args s = true := by
  intro w hw
  by_cases g : goodWord w = true
  · exact h1 w (List.mem_filter.mpr ⟨hw, g⟩)
  · refine h3 w (h2 w (List.mem_filter.mpr ⟨hw, ?_⟩))
    show (!goodWord w) = true
    cases hgw : goodWord w
    · rfl
    · exact absurd hgw g
theorem vx_c {args : Array Value} {s : State} {w : Cond} {B : List Cond} (h : w.before args s = true) (t : ∀ w ∈ B, w.before args s = true) : ∀ w' ∈ w :: B, w'.before args s = true := fun w' h' => (List.mem_cons.mp h').elim (fun e => by rw [e]; exact h) (t w')
theorem vx_n {args : Array Value} {s : State} : ∀ w ∈ ([] : List Cond), w.before args s = true := fun _ h => nomatch h
theorem vx_own {args : Array Value} {s : State} {L : List Cond} (h1 : ∀ w ∈ L.filter vx_no, w.before args s = true)
    (hU : (Cond.isRef (.static Bundle.tN "UNASSIGNED_STACK" Bundle.steD)).before args s = true) (hN : (Cond.isRef (.static Bundle.tN "SUPPRESSED_SENTINEL" Bundle.listD)).before args s = true)
    (lU : (Cond.laysStatic Bundle.tN "UNASSIGNED_STACK" Bundle.steD).before args s = true) (lN : (Cond.laysStatic Bundle.tN "SUPPRESSED_SENTINEL" Bundle.listD).before args s = true) : ∀ w ∈ L, w.before args s = true := by
  intro w hw
  by_cases e1 : w = .isRef (.static Bundle.tN "UNASSIGNED_STACK" Bundle.steD)
  · rw [e1]; exact hU
  · by_cases e2 : w = .isRef (.static Bundle.tN "SUPPRESSED_SENTINEL" Bundle.listD)
    · rw [e2]; exact hN
    · by_cases e3 : w = .laysStatic Bundle.tN "UNASSIGNED_STACK" Bundle.steD
      · rw [e3]; exact lU
      · by_cases e4 : w = .laysStatic Bundle.tN "SUPPRESSED_SENTINEL" Bundle.listD
        · rw [e4]; exact lN
        · exact h1 w (List.mem_filter.mpr ⟨hw, by unfold vx_no; rw [decide_eq_true e1, decide_eq_true e2, decide_eq_true e3, decide_eq_true e4]; rfl⟩)
/-- where a static field lies, its class's statics cell in H -/
def vx_L (C n d : String) (A : Nat → Prop) (U : State) (H : Heap) : Prop := ∃ (c : ClassId) (k : Class) (i : Nat) (f : Field) (a : Nat) (cell : Cell), U.vm.findClass C = some c ∧ U.fieldFound? C n d = some (c, k, i, f) ∧ f.isStatic = true ∧ k.statics = some a ∧ H[a]? = some cell ∧ cell.vm.isStatics = true ∧ cell.cls = c ∧ f.slot < cell.slots.size ∧ k.staticTypes[f.slot]? = some f.type ∧ ¬ A a
theorem vx_L.moved {C n d : String} {A : Nat → Prop} {u U : State} {H : Heap} (hvm : u.vm.Alike U.vm) (h : vx_L C n d A u H) : vx_L C n d A U H := by
  obtain ⟨c, k, i, f, a, cell, h1, h2, h3, h4, h5, h6, h7, h8, h9, h10⟩ := h
  obtain ⟨k', hi', he⟩ := State.fieldFound?_setVm hvm h2
  exact ⟨c, k', i, f, a, cell, by rw [hvm.findClass]; exact h1, hi', h3, by rw [he]; exact h4, h5, h6, h7, h8, by rw [he]; exact h9, h10⟩
theorem vx_L.kept {C n d : String} {A : Nat → Prop} {U : State} {H H1 : Heap} (h : vx_L C n d A U H) (hq : ∀ a : Nat, a < H.size → ¬ A a → H1[a]? = H[a]?) : vx_L C n d A U H1 := by
  obtain ⟨c, k, i, f, a, cell, h1, h2, h3, h4, h5, h6, h7, h8, h9, h10⟩ := h
  exact ⟨c, k, i, f, a, cell, h1, h2, h3, h4, by rw [hq a (Array.getElem?_eq_some_iff.mp h5).1 h10]; exact h5, h6, h7, h8, h9, h10⟩
theorem vx_L.narrow {C n d : String} {A B : Nat → Prop} {U : State} {H : Heap} (h : vx_L C n d A U H) (hAB : ∀ q, B q → A q) : vx_L C n d B U H := by
  obtain ⟨c, k, i, f, a, cell, h1, h2, h3, h4, h5, h6, h7, h8, h9, h10⟩ := h
  exact ⟨c, k, i, f, a, cell, h1, h2, h3, h4, h5, h6, h7, h8, h9, fun z => h10 (hAB _ z)⟩
theorem vx_L.word {C n d : String} {A : Nat → Prop} {s : State} {args : Array Value} (h : vx_L C n d A s s.heap) : (Cond.laysStatic C n d).before args s = true := by
  obtain ⟨c, k, i, f, a, cell, h1, h2, h3, h4, h5, h6, h7, h8, h9, -⟩ := h
  show (Cond.laysStatic C n d).holds args s none s [] = true
  exact Cond.laysStatic_of h1 h2 h3 h4 h5 h6 h7 h8 h9
/-- .. and what it holds: null or some reference -/
def vx_Zq (C n d : String) (A : Nat → Prop) (U : State) (H : Heap) : Prop := va_Zq C n d A U H ∧ vx_L C n d A U H
theorem vx_Zq.moved {C n d : String} {A : Nat → Prop} {u U : State} {H : Heap} (hvm : u.vm.Alike U.vm) (h : vx_Zq C n d A u H) : vx_Zq C n d A U H := ⟨va_Zq.moved hvm h.1, vx_L.moved hvm h.2⟩
theorem vx_Zq.kept {C n d : String} {A : Nat → Prop} {U : State} {H H1 : Heap} (h : vx_Zq C n d A U H) (hq : ∀ a : Nat, a < H.size → ¬ A a → H1[a]? = H[a]?) : vx_Zq C n d A U H1 := ⟨va_Zq.kept h.1 hq, vx_L.kept h.2 hq⟩
theorem vx_Zq.narrow {C n d : String} {A B : Nat → Prop} {U : State} {H : Heap} (h : vx_Zq C n d A U H) (hAB : ∀ q, B q → A q) : vx_Zq C n d B U H := ⟨va_Zq.narrow h.1 hAB, vx_L.narrow h.2 hAB⟩
theorem vx_Zqof {args : Array Value} {s : State} {C n d : String} {A : Nat → Prop} (hl : (Cond.laysStatic C n d).before args s = true) (hini : (Cond.initialized C).before args s = true) (h : (Cond.isRef (.static C n d)).before args s = true) (hA : ∀ a : Nat, a < s.heap.size → ¬ A a) : vx_Zq C n d A s s.heap := by
  refine ⟨va_Zqof hl hini h hA, ?_⟩
  obtain ⟨c, k, i, f, a, cell, h1, h2, h3, h4, h5, h6, h7, h8, h9⟩ := Cond.laysStatic_spec hl
  exact ⟨c, k, i, f, a, cell, h1, h2, h3, h4, h5, h6, h7, h8, h9, hA a (Array.getElem?_eq_some_iff.mp h5).1⟩
theorem vx_isRef {C n d : String} {v : Value} {A : Nat → Prop} {s : State} {args : Array Value} (h : va_Z C n d v A s s.heap) (hv : v.isRef = true) : (Cond.isRef (.static C n d)).before args s = true := by
  obtain ⟨cf, kf, fi, f, a, cell, h1, h2, h3, h4, h5, h6, h7, -⟩ := h
  have he : (Term.static C n d).eval args s none [] s = some v := by
    simp [Term.eval, State.fieldNamed?, h1, h2, h4, h5, h6, h7]
  simp only [Cond.before, Cond.holds, Cond.value, he]
  cases v <;> simp_all [Value.isRef]
theorem vx_isRefq {C n d : String} {A : Nat → Prop} {s : State} {args : Array Value} (h : va_Zq C n d A s s.heap) : (Cond.isRef (.static C n d)).before args s = true := by
  rcases h with h | ⟨t, h⟩
  · exact vx_isRef h rfl
  · exact vx_isRef h rfl
/-- the same frame, seen from here: as if the method were called anew in this heap -/
theorem vx_rebase {T : State} (X : Stand p l e R s m args below meth c T locs cells slots) {R' : Room} (hf : R'.frames ≤ R.frames) (hl : R'.locals ≤ R.locals) (hc : cells + R'.cells ≤ R.cells) (hs : slots + R'.slots ≤ R.slots) :
    Stand p l e R' ((T.setVm s.vm).setFrames (.invoking m args :: below)) m args below meth c T [] 0 0 := by
  have htop : (T.setVm s.vm).topJava?.isSome := X.here.top
  have hF : ((T.setVm s.vm).setFrames (.invoking m args :: below)).frames = .invoking m args :: below := State.frames_setFrames _ (State.cur_lt_of_top htop)
  obtain ⟨g₀, hg0⟩ := Option.isSome_iff_exists.mp htop
  obtain ⟨r, hr⟩ := State.topJava?_eq_some.mp hg0
  have hl9 : e.platform.stackLimits (T.setVm s.vm).me = e.platform.stackLimits s.me := X.limits
  have hb9 : (T.setVm s.vm).me.stackBytes = s.me.stackBytes := X.bytes
  refine ⟨X.admits, X.cas, X.clock, hF, ?_, X.hears, X.method, X.code, X.here, X.tail, X.warmed, ?_, ?_, ?_⟩
  · have h := X.room
    have hU : ((T.setVm s.vm).setFrames (.invoking m args :: below)).localsInUse = s.localsInUse := by
      rw [State.localsInUse_invoking hF (meth := meth) (c := c) X.method X.code, State.localsInUse_invoking X.frames X.method X.code]
    simp only [State.hasRoom, Bool.and_eq_true, decide_eq_true_eq] at h ⊢
    obtain ⟨⟨⟨⟨h1, h2, h3, h4, h5, h6⟩, h7⟩, h8⟩, h9⟩ := h
    rw [X.frames, List.length_cons] at h2 h3
    have q1 := X.heapSize
    have q2 := X.used
    simp only [hF, hU, List.length_cons, State.stackLimits_setFrames, State.stackBytes_setFrames, hl9, hb9]
    refine ⟨⟨⟨⟨by omega, by omega, by omega, by omega, by omega, h6⟩, ?_⟩, ?_⟩, X.book⟩
    · show T.heap.size + R'.cells ≤ e.platform.maxCells
      omega
    · show T.slotsUsed + R'.slots ≤ e.platform.maxSlots
      omega
  · rw [State.stackLimits_setFrames]; rfl
  · rw [State.stackBytes_setFrames]; rfl
  · refine ⟨?_, Nat.le_refl _, Nat.le_refl _, ?_, ?_, fun a c9 h9 => ⟨c9, h9, rfl, rfl, fun _ _ => rfl⟩⟩
    · obtain ⟨t, ht, -⟩ := State.frames_cons hr
      show T.setVm s.vm = { ((T.setVm s.vm).setFrames (.invoking m args :: below)).setFrames (T.setVm s.vm).frames with heap := T.heap, slotsUsed := T.slotsUsed }
      rw [State.setFrames_setFrames, State.setFrames_self ht]
      rfl
    · show T.slotsUsed = T.slotsUsed + ((T.heap.toList.drop T.heap.size).map (·.slots.size)).sum
      rw [List.drop_eq_nil_of_le (Nat.le_of_eq Array.length_toList)]
      rfl
    · show ((T.heap.toList.drop T.heap.size).map (·.slots.size)).sum ≤ 0
      rw [List.drop_eq_nil_of_le (Nat.le_of_eq Array.length_toList)]
      exact Nat.le_refl _
/-- 'throw new E()': new; dup; invokespecial; athrow -/
theorem vx_throw0 {cc : ByteArray} {pc : Nat} (hexec : p.tables.exec = Jvm.exec) (hb : c.code = cc) (hl : l.stackTraces = false) {own cls : String} {names : List String} {ik ic mc ms : Nat} {A : Nat → Prop}
    (hown : s.vm.findClass own = some m.cls) (hcls : Bundle.fit cls = true) (hnames : ∀ n ∈ names, Bundle.fit n = true)
    (hk : (Cond.classLink own ik cls).before args s = true) (hini : (Cond.initialized cls).before args s = true) (hat : ∀ w ∈ vx_at0 own ic cls names, w.before args s = true)
    (hgood : ∀ w ∈ Cond.classLink own ik cls :: Cond.initialized cls :: vx_at0 own ic cls names, vx_ot w = true)
    (hU : vx_Zq Bundle.tN "UNASSIGNED_STACK" Bundle.steD A s s.heap) (hN : vx_Zq Bundle.tN "SUPPRESSED_SENTINEL" Bundle.listD A s s.heap) (hS : va_S A s.heap H locs) (hsize : ls.size = c.maxLocals)
    (d0 : decode cc pc = .ok (.new ik, 3)) (d3 : decode cc (pc + 3) = .ok (.dup, 1)) (d4 : decode cc (pc + 4) = .ok (.invokespecial ic, 3)) (d7 : decode cc (pc + 7) = .ok (.athrow, 1))
    (hout : ∀ x ∈ c.exceptionTable.toList, covers x (pc + 7) = false)
    (hRframes : names.length + 3 < R.frames) (hRlocals : (rest.map fun v => v.category).sum + (13 * (names.length + 1) + 42) ≤ R.locals) (hRcells : cells + 1 ≤ R.cells) (hRslots : slots + 6 ≤ R.slots) (hlocks : meth.locks = false)
    (hx : ∀ t : State, s.vm.Alike t.vm → H.size ≤ t.heap.size → (∀ q : Nat, q < H.size → t.heap[q]? = H[q]?) → XC cls s t)
    (hf : ∀ z ∈ locs, free z.base) (hc : cells + 1 ≤ mc) (hs : slots + 6 ≤ ms) :
    W p l e R s m args below meth c H locs cells slots (vx_MQ below Qc XC args s mc ms free) (F0 m pc ls rest) := by
  intro T hT X
  have htr : e.platform.stackTraces = false := (show e.platform.stackTraces = l.stackTraces by rw [X.admits.platform]).trans hl
  have Y := vx_rebase X (R' := { frames := R.frames, locals := R.locals, cells := 1, slots := 6 }) (Nat.le_refl _) (Nat.le_refl _) hRcells hRslots
  obtain ⟨s', hA⟩ : ∃ z, z = (T.setVm s.vm).setFrames (.invoking m args :: below) := ⟨_, rfl⟩
  rw [← hA] at Y
  have hvm : s'.vm = s.vm := by rw [hA]; rfl
  have hhp : s'.heap = H := by rw [hA]; exact hT
  have hW0 : s.WarmedH s'.vm := by rw [hvm]; exact State.WarmedH.refl s
  have hat' : ∀ w ∈ vx_at0 own ic cls names, w.before args s' = true := fun w hw => vx_ot_at hW0 hvm.symm (hgood w (List.mem_cons_of_mem _ (List.mem_cons_of_mem _ hw))) (hat w hw)
  have hk' : (Cond.classLink own ik cls).before args s' = true := vx_ot_at hW0 hvm.symm (hgood _ List.mem_cons_self) hk
  have hini' : (Cond.initialized cls).before args s' = true := vx_ot_at hW0 hvm.symm (hgood _ (List.mem_cons_of_mem _ List.mem_cons_self)) hini
  have hU' : vx_Zq Bundle.tN "UNASSIGNED_STACK" Bundle.steD A s' s'.heap := by rw [hhp]; exact vx_Zq.moved hW0.alike (hU.kept hS.2.1)
  have hN' : vx_Zq Bundle.tN "SUPPRESSED_SENTINEL" Bundle.listD A s' s'.heap := by rw [hhp]; exact vx_Zq.moved hW0.alike (hN.kept hS.2.1)
  have h : ∀ w ∈ Bundle.ownAtoms0 own ic cls names, w.before args s' = true := vx_own hat' (vx_isRefq hU'.1) (vx_isRefq hN'.1) hU'.2.word hN'.2.word
  have hown' : s'.vm.findClass own = some m.cls := by rw [hvm]; exact hown
  have hins : (Cond.instantiable cls 6).before args s' = true := h _ (by simp [Bundle.ownAtoms0])
  obtain ⟨vm₁, cX, kX, hfX, hkX, -, -, X₁, st1⟩ := Y.newCold hexec (own := own) (C := cls) (index := ik) (n := 6) hown' hk' hins hini'
    (g := F0 m pc ls rest) rfl (by rw [hb]; exact d0) (Nat.le_refl _) (Nat.le_refl _)
  generalize hT1 : (T.setVm vm₁).pushCell { cls := cX, slots := kX.instanceTypes.map defaultValue, vm := .none } = T1 at X₁ st1
  have hcat : (Value.ref T.heap.size).category = 1 := rfl
  have hcellA : T1.heap[T.heap.size]? = some (freshCell cX kX) := by rw [← hT1]; exact State.heap_pushCell_size _ _
  have d3' : decode c.code (pc + 3) = .ok (.dup, 1) := by rw [hb]; exact d3
  obtain ⟨U, hsteps, hrun, hend, hW, hsame, ce, hce, hO⟩ := X₁.ctorThrow0 hexec htr (own := own) (cls := cls) (names := names) (ic := ic) hown' hcls hnames h (fun x hx => nomatch hx) hfX hkX hcellA (by rw [hhp, hT]; exact Nat.le_refl _)
    (g := { method := m, pc := pc + 4, locals := ls, stack := .ref T.heap.size :: .ref T.heap.size :: rest, locked := none }) rfl hsize rfl rfl (rest := rest) rfl
    (by rw [hb]; exact d4) (by rw [hb]; exact d7) hout hRframes (by simp only [List.map_cons, List.sum_cons, hcat]; omega) hlocks
  obtain ⟨f1, f2⟩ := vx_frame hsame
  rw [hhp] at f1 f2
  have hWs : s.WarmedH U.vm := State.WarmedH.trans hW0 hW
  have hcl : s.vm.findClass cls = some ce.cls := by
    have h9 := hO.cls
    rw [hvm] at h9
    exact h9
  have hall : s.sameButNew ({ U with vm := s.vm } : State) locs mc ms := by
    subst hA
    obtain ⟨e1, e2⟩ := hsame
    rw [State.setFrames_setFrames] at e1
    have h2 : (T.setVm s.vm).sameButNew ({ U with vm := s.vm } : State) [] (0 + 1) (0 + 6) := ⟨e1, e2⟩
    have h3 := X.same.trans h2
    rw [List.append_nil] at h3
    exact h3.mono hc hs
  refine ⟨U, ?_, .threw T.heap.size, hrun, hend, Or.inr ⟨T.heap.size, rfl, cls, ce, locs, hx U hWs.alike f1 (fun q hq => f2 q hq (fun z hz => nomatch hz)), hce, hO.vm, hcl, hWs, hall, hf⟩⟩
  refine st1 _ ?_
  show Steps p.tables e below (T1.setTop { method := m, pc := pc + 3, locals := ls, stack := .ref T.heap.size :: rest, locked := none }) _
  jvm_step X₁.here [X₁.here.top, hexec, d3', Value.category]
  exact hsteps
/-- 'throw new E("text")': new; dup; ldc; invokespecial; athrow -/
theorem vx_throwS {cc : ByteArray} {pc : Nat} (hexec : p.tables.exec = Jvm.exec) (hb : c.code = cc) (hl : l.stackTraces = false) {own cls text : String} {names : List String} {ik is ic mc ms sa : Nat} {A : Nat → Prop}
    (hown : s.vm.findClass own = some m.cls) (hcls : Bundle.fit cls = true) (hnames : ∀ n ∈ names, Bundle.fit n = true)
    (hk : (Cond.classLink own ik cls).before args s = true) (hini : (Cond.initialized cls).before args s = true) (hstr : vk_R own is text sa s) (hat : ∀ w ∈ vx_atS own ic cls names, w.before args s = true)
    (hgood : ∀ w ∈ Cond.classLink own ik cls :: Cond.initialized cls :: vx_atS own ic cls names, vx_ot w = true)
    (hU : vx_Zq Bundle.tN "UNASSIGNED_STACK" Bundle.steD A s s.heap) (hN : vx_Zq Bundle.tN "SUPPRESSED_SENTINEL" Bundle.listD A s s.heap) (hS : va_S A s.heap H locs) (hsize : ls.size = c.maxLocals)
    (d0 : decode cc pc = .ok (.new ik, 3)) (d3 : decode cc (pc + 3) = .ok (.dup, 1)) (d4 : decode cc (pc + 4) = .ok (.ldc is, 2)) (d6 : decode cc (pc + 6) = .ok (.invokespecial ic, 3)) (d9 : decode cc (pc + 9) = .ok (.athrow, 1))
    (hout : ∀ x ∈ c.exceptionTable.toList, covers x (pc + 9) = false)
    (hRframes : names.length + 3 < R.frames) (hRlocals : (rest.map fun v => v.category).sum + (13 * (names.length + 1) + 43) ≤ R.locals) (hRcells : cells + 1 ≤ R.cells) (hRslots : slots + 6 ≤ R.slots) (hlocks : meth.locks = false)
    (hx : ∀ t : State, s.vm.Alike t.vm → H.size ≤ t.heap.size → (∀ q : Nat, q < H.size → t.heap[q]? = H[q]?) → XC cls s t)
    (hf : ∀ z ∈ locs, free z.base) (hc : cells + 1 ≤ mc) (hs : slots + 6 ≤ ms) :
    W p l e R s m args below meth c H locs cells slots (vx_MQ below Qc XC args s mc ms free) (F0 m pc ls rest) := by
  intro T hT X
  have htr : e.platform.stackTraces = false := (show e.platform.stackTraces = l.stackTraces by rw [X.admits.platform]).trans hl
  have Y := vx_rebase X (R' := { frames := R.frames, locals := R.locals, cells := 1, slots := 6 }) (Nat.le_refl _) (Nat.le_refl _) hRcells hRslots
  obtain ⟨s', hA⟩ : ∃ z, z = (T.setVm s.vm).setFrames (.invoking m args :: below) := ⟨_, rfl⟩
  rw [← hA] at Y
  have hvm : s'.vm = s.vm := by rw [hA]; rfl
  have hhp : s'.heap = H := by rw [hA]; exact hT
  have hW0 : s.WarmedH s'.vm := by rw [hvm]; exact State.WarmedH.refl s
  have hat' : ∀ w ∈ vx_atS own ic cls names, w.before args s' = true := fun w hw => vx_ot_at hW0 hvm.symm (hgood w (List.mem_cons_of_mem _ (List.mem_cons_of_mem _ hw))) (hat w hw)
  have hk' : (Cond.classLink own ik cls).before args s' = true := vx_ot_at hW0 hvm.symm (hgood _ List.mem_cons_self) hk
  have hini' : (Cond.initialized cls).before args s' = true := vx_ot_at hW0 hvm.symm (hgood _ (List.mem_cons_of_mem _ List.mem_cons_self)) hini
  have hU' : vx_Zq Bundle.tN "UNASSIGNED_STACK" Bundle.steD A s' s'.heap := by rw [hhp]; exact vx_Zq.moved hW0.alike (hU.kept hS.2.1)
  have hN' : vx_Zq Bundle.tN "SUPPRESSED_SENTINEL" Bundle.listD A s' s'.heap := by rw [hhp]; exact vx_Zq.moved hW0.alike (hN.kept hS.2.1)
  have h : ∀ w ∈ Bundle.ownAtoms own ic cls names, w.before args s' = true := vx_own hat' (vx_isRefq hU'.1) (vx_isRefq hN'.1) hU'.2.word hN'.2.word
  have hown' : s'.vm.findClass own = some m.cls := by rw [hvm]; exact hown
  have hins : (Cond.instantiable cls 6).before args s' = true := h _ (by simp [Bundle.ownAtoms])
  obtain ⟨vm₁, cX, kX, hfX, hkX, -, -, X₁, st1⟩ := Y.newCold hexec (own := own) (C := cls) (index := ik) (n := 6) hown' hk' hins hini'
    (g := F0 m pc ls rest) rfl (by rw [hb]; exact d0) (Nat.le_refl _) (Nat.le_refl _)
  generalize hT1 : (T.setVm vm₁).pushCell { cls := cX, slots := kX.instanceTypes.map defaultValue, vm := .none } = T1 at X₁ st1
  have hcat : (Value.ref T.heap.size).category = 1 := rfl
  have hcellA : T1.heap[T.heap.size]? = some (freshCell cX kX) := by rw [← hT1]; exact State.heap_pushCell_size _ _
  have d3' : decode c.code (pc + 3) = .ok (.dup, 1) := by rw [hb]; exact d3
  have d4' : decode c.code (pc + 4) = .ok (.ldc is, 2) := by rw [hb]; exact d4
  have hstr' : vk_R own is text sa s' := vk_R.warm hW0 hstr
  obtain ⟨U, hsteps, hrun, hend, hW, hsame, ce, hce, hO⟩ := X₁.ctorThrowS hexec htr (own := own) (cls := cls) (names := names) (ic := ic) hown' hcls hnames h (fun x hx => nomatch hx) hfX hkX hcellA (by rw [hhp, hT]; exact Nat.le_refl _) (msg := .ref sa) rfl
    (g := { method := m, pc := pc + 6, locals := ls, stack := .ref sa :: .ref T.heap.size :: .ref T.heap.size :: rest, locked := none }) rfl hsize rfl rfl (rest := rest) rfl
    (by rw [hb]; exact d6) (by rw [hb]; exact d9) hout hRframes (by simp only [List.map_cons, List.sum_cons, hcat]; omega) hlocks
  obtain ⟨f1, f2⟩ := vx_frame hsame
  rw [hhp] at f1 f2
  have hWs : s.WarmedH U.vm := State.WarmedH.trans hW0 hW
  have hcl : s.vm.findClass cls = some ce.cls := by
    have h9 := hO.cls
    rw [hvm] at h9
    exact h9
  have hall : s.sameButNew ({ U with vm := s.vm } : State) locs mc ms := by
    subst hA
    obtain ⟨e1, e2⟩ := hsame
    rw [State.setFrames_setFrames] at e1
    have h2 : (T.setVm s.vm).sameButNew ({ U with vm := s.vm } : State) [] (0 + 1) (0 + 6) := ⟨e1, e2⟩
    have h3 := X.same.trans h2
    rw [List.append_nil] at h3
    exact h3.mono hc hs
  refine ⟨U, ?_, .threw T.heap.size, hrun, hend, Or.inr ⟨T.heap.size, rfl, cls, ce, locs, hx U hWs.alike f1 (fun q hq => f2 q hq (fun z hz => nomatch hz)), hce, hO.vm, hcl, hWs, hall, hf⟩⟩
  refine st1 _ ?_
  show Steps p.tables e below (T1.setTop { method := m, pc := pc + 3, locals := ls, stack := .ref T.heap.size :: rest, locked := none }) _
  jvm_step X₁.here [X₁.here.top, hexec, d3', Value.category]
  exact X₁.ldcString hexec (own := own) (text := text) (index := is) (a := sa) hown' hstr'.1 hstr'.2
    (g := { method := m, pc := pc + 4, locals := ls, stack := .ref T.heap.size :: .ref T.heap.size :: rest, locked := none }) rfl d4' _ hsteps
/-- 'throw new E("text")', the text by a wide index -/
theorem vx_throwSW {cc : ByteArray} {pc : Nat} (hexec : p.tables.exec = Jvm.exec) (hb : c.code = cc) (hl : l.stackTraces = false) {own cls text : String} {names : List String} {ik is ic mc ms sa : Nat} {A : Nat → Prop}
    (hown : s.vm.findClass own = some m.cls) (hcls : Bundle.fit cls = true) (hnames : ∀ n ∈ names, Bundle.fit n = true)
    (hk : (Cond.classLink own ik cls).before args s = true) (hini : (Cond.initialized cls).before args s = true) (hstr : vk_R own is text sa s) (hat : ∀ w ∈ vx_atS own ic cls names, w.before args s = true)
    (hgood : ∀ w ∈ Cond.classLink own ik cls :: Cond.initialized cls :: vx_atS own ic cls names, vx_ot w = true)
    (hU : vx_Zq Bundle.tN "UNASSIGNED_STACK" Bundle.steD A s s.heap) (hN : vx_Zq Bundle.tN "SUPPRESSED_SENTINEL" Bundle.listD A s s.heap) (hS : va_S A s.heap H locs) (hsize : ls.size = c.maxLocals)
    (d0 : decode cc pc = .ok (.new ik, 3)) (d3 : decode cc (pc + 3) = .ok (.dup, 1)) (d4 : decode cc (pc + 4) = .ok (.ldc_w is, 3)) (d7 : decode cc (pc + 7) = .ok (.invokespecial ic, 3)) (d10 : decode cc (pc + 10) = .ok (.athrow, 1))
    (hout : ∀ x ∈ c.exceptionTable.toList, covers x (pc + 10) = false)
    (hRframes : names.length + 3 < R.frames) (hRlocals : (rest.map fun v => v.category).sum + (13 * (names.length + 1) + 43) ≤ R.locals) (hRcells : cells + 1 ≤ R.cells) (hRslots : slots + 6 ≤ R.slots) (hlocks : meth.locks = false)
    (hx : ∀ t : State, s.vm.Alike t.vm → H.size ≤ t.heap.size → (∀ q : Nat, q < H.size → t.heap[q]? = H[q]?) → XC cls s t)
    (hf : ∀ z ∈ locs, free z.base) (hc : cells + 1 ≤ mc) (hs : slots + 6 ≤ ms) :
    W p l e R s m args below meth c H locs cells slots (vx_MQ below Qc XC args s mc ms free) (F0 m pc ls rest) := by
  intro T hT X
  have htr : e.platform.stackTraces = false := (show e.platform.stackTraces = l.stackTraces by rw [X.admits.platform]).trans hl
  have Y := vx_rebase X (R' := { frames := R.frames, locals := R.locals, cells := 1, slots := 6 }) (Nat.le_refl _) (Nat.le_refl _) hRcells hRslots
  obtain ⟨s', hA⟩ : ∃ z, z = (T.setVm s.vm).setFrames (.invoking m args :: below) := ⟨_, rfl⟩
  rw [← hA] at Y
  have hvm : s'.vm = s.vm := by rw [hA]; rfl
  have hhp : s'.heap = H := by rw [hA]; exact hT
  have hW0 : s.WarmedH s'.vm := by rw [hvm]; exact State.WarmedH.refl s
  have hat' : ∀ w ∈ vx_atS own ic cls names, w.before args s' = true := fun w hw => vx_ot_at hW0 hvm.symm (hgood w (List.mem_cons_of_mem _ (List.mem_cons_of_mem _ hw))) (hat w hw)
  have hk' : (Cond.classLink own ik cls).before args s' = true := vx_ot_at hW0 hvm.symm (hgood _ List.mem_cons_self) hk
  have hini' : (Cond.initialized cls).before args s' = true := vx_ot_at hW0 hvm.symm (hgood _ (List.mem_cons_of_mem _ List.mem_cons_self)) hini
  have hU' : vx_Zq Bundle.tN "UNASSIGNED_STACK" Bundle.steD A s' s'.heap := by rw [hhp]; exact vx_Zq.moved hW0.alike (hU.kept hS.2.1)
  have hN' : vx_Zq Bundle.tN "SUPPRESSED_SENTINEL" Bundle.listD A s' s'.heap := by rw [hhp]; exact vx_Zq.moved hW0.alike (hN.kept hS.2.1)
  have h : ∀ w ∈ Bundle.ownAtoms own ic cls names, w.before args s' = true := vx_own hat' (vx_isRefq hU'.1) (vx_isRefq hN'.1) hU'.2.word hN'.2.word
  have hown' : s'.vm.findClass own = some m.cls := by rw [hvm]; exact hown
  have hins : (Cond.instantiable cls 6).before args s' = true := h _ (by simp [Bundle.ownAtoms])
  obtain ⟨vm₁, cX, kX, hfX, hkX, -, -, X₁, st1⟩ := Y.newCold hexec (own := own) (C := cls) (index := ik) (n := 6) hown' hk' hins hini'
    (g := F0 m pc ls rest) rfl (by rw [hb]; exact d0) (Nat.le_refl _) (Nat.le_refl _)
  generalize hT1 : (T.setVm vm₁).pushCell { cls := cX, slots := kX.instanceTypes.map defaultValue, vm := .none } = T1 at X₁ st1
  have hcat : (Value.ref T.heap.size).category = 1 := rfl
  have hcellA : T1.heap[T.heap.size]? = some (freshCell cX kX) := by rw [← hT1]; exact State.heap_pushCell_size _ _
  have d3' : decode c.code (pc + 3) = .ok (.dup, 1) := by rw [hb]; exact d3
  have d4' : decode c.code (pc + 4) = .ok (.ldc_w is, 3) := by rw [hb]; exact d4
  have hstr' : vk_R own is text sa s' := vk_R.warm hW0 hstr
  obtain ⟨U, hsteps, hrun, hend, hW, hsame, ce, hce, hO⟩ := X₁.ctorThrowS hexec htr (own := own) (cls := cls) (names := names) (ic := ic) hown' hcls hnames h (fun x hx => nomatch hx) hfX hkX hcellA (by rw [hhp, hT]; exact Nat.le_refl _) (msg := .ref sa) rfl
    (g := { method := m, pc := pc + 7, locals := ls, stack := .ref sa :: .ref T.heap.size :: .ref T.heap.size :: rest, locked := none }) rfl hsize rfl rfl (rest := rest) rfl
    (by rw [hb]; exact d7) (by rw [hb]; exact d10) hout hRframes (by simp only [List.map_cons, List.sum_cons, hcat]; omega) hlocks
  obtain ⟨f1, f2⟩ := vx_frame hsame
  rw [hhp] at f1 f2
  have hWs : s.WarmedH U.vm := State.WarmedH.trans hW0 hW
  have hcl : s.vm.findClass cls = some ce.cls := by
    have h9 := hO.cls
    rw [hvm] at h9
    exact h9
  have hall : s.sameButNew ({ U with vm := s.vm } : State) locs mc ms := by
    subst hA
    obtain ⟨e1, e2⟩ := hsame
    rw [State.setFrames_setFrames] at e1
    have h2 : (T.setVm s.vm).sameButNew ({ U with vm := s.vm } : State) [] (0 + 1) (0 + 6) := ⟨e1, e2⟩
    have h3 := X.same.trans h2
    rw [List.append_nil] at h3
    exact h3.mono hc hs
  refine ⟨U, ?_, .threw T.heap.size, hrun, hend, Or.inr ⟨T.heap.size, rfl, cls, ce, locs, hx U hWs.alike f1 (fun q hq => f2 q hq (fun z hz => nomatch hz)), hce, hO.vm, hcl, hWs, hall, hf⟩⟩
  refine st1 _ ?_
  show Steps p.tables e below (T1.setTop { method := m, pc := pc + 3, locals := ls, stack := .ref T.heap.size :: rest, locked := none }) _
  jvm_step X₁.here [X₁.here.top, hexec, d3', Value.category]
  exact X₁.ldcStringW hexec (own := own) (text := text) (index := is) (a := sa) hown' hstr'.1 hstr'.2
    (g := { method := m, pc := pc + 4, locals := ls, stack := .ref T.heap.size :: .ref T.heap.size :: rest, locked := none }) rfl d4' _ hsteps
end Ends
section Bodies
variable {l : Launch}
theorem vx_ofW {y : MethodName} {ws ws' : List Cond} {rm : Room} {Pc : Array Value → State → Prop} {Qc : Array Value → State → Outcome → State → Prop} {XC : String → State → State → Prop} {mc ms : Nat} {free : Addr → Prop} {cc : ByteArray} {maxL : Nat} {ret : Option FieldType}
    (hy : plainName y.cls = true) (hw : ws = Cond.code y cc maxL ret :: ws')
    (body : ∀ p e s m args below meth c s₁, BodyLoose p l y (headSpec ws rm) cc maxL ret e s m args below meth c s₁ → c.maxLocals = maxL → (∀ x ∈ c.exceptionTable.toList, False) → Pc args s →
      W p l e (headSpec ws rm).room s m args below meth c s.heap [] 0 0 (vx_MQ below Qc XC args s mc ms free) (entryFrame m args maxL)) : vx_Met l y ws rm Pc Qc XC mc ms free := by
  refine MetFree.of_bodyS (code := cc) (maxLocals := maxL) (ret := ret) hy ?_ ?_
  · intro args s m h hn
    obtain ⟨meth, c, h1, h2, h3, h4, h5, h6, -, -⟩ := Cond.code_spec hn (atoms_spec (ws := ws) h _ (by rw [hw]; exact List.mem_cons_self))
    exact ⟨meth, c, h1, h2, h3, h4, h5, h6⟩
  · intro p e s m args below meth c s₁ B hml hP _
    have hh0 : s₁.heap = s.heap := by rw [B.state]; rfl
    have ht : ∀ x ∈ c.exceptionTable.toList, False := by
      obtain ⟨meth9, c9, h1, h2, -, -, -, -, h7, -⟩ := Cond.code_spec B.named (atoms_spec (ws := ws) B.pre _ (by rw [hw]; exact List.mem_cons_self))
      cases Option.some.inj (h1.symm.trans B.method)
      cases Option.some.inj (h2.symm.trans (Stand.of_body B).code)
      intro x hx
      rw [Array.isEmpty_iff.mp h7] at hx
      cases hx
    obtain ⟨t, a1, o, b1, b2, b3⟩ := body p e s m args below meth c s₁ B hml ht hP s₁ hh0 (Stand.of_body B)
    exact ⟨t, o, a1, b1, b2, b3⟩
/-- the table of a body with handlers -/
theorem vx_table {p : Program} {x y : MethodName} {S : Spec} {cc bytes : ByteArray} {maxL maxL' : Nat} {ret ret' : Option FieldType} {e : Env} {s s₁ : State} {m : MethodId} {args : Array Value} {below : List Frame} {meth : Method} {c : Code} {hh : List (Nat × Nat × Nat × Nat)}
    (B : BodyLoose p l y S cc maxL ret e s m args below meth c s₁) (h : (Cond.codeWith y bytes maxL' ret' hh).before args s = true) : c.exceptionTable.toList = tableOf hh := by
  obtain ⟨m9, meth9, c9, hn9, h1, h2, -, -, h6, -⟩ := Cond.codeWith_spec h
  cases Option.some.inj (hn9.symm.trans B.named)
  cases Option.some.inj (h1.symm.trans B.method)
  cases Option.some.inj (h2.symm.trans (Stand.of_body B).code)
  rw [← h6, table_eq]
end Bodies
end VXA
/-! ===== END ===== -/
/-! ===== BEGIN a static call of a method with an exception table ===== -/
section VXS
variable {p : Program} {l : Launch} {e : Env} {R : Room} {s : State} {m : MethodId} {args : Array Value} {below : List Frame} {meth : Method} {c : Code} {T : State} {H : Heap} {locs : List Loc} {cells slots : Nat}
abbrev vx_CSW (R : Room) (s : State) (args : Array Value) (own : String) (index : Nat) (y : MethodName) (bytes : ByteArray) (maxL : Nat) (ret : Option FieldType) (hh : List (Nat × Nat × Nat × Nat)) (ws : List Cond) (rm : Room) (mc ms n : Nat) : Prop :=
  (rm.cells = mc ∧ rm.slots = ms ∧ rm.frames + 1 ≤ R.frames ∧ 8 + (maxL + 11) + rm.locals ≤ R.locals ∧ (∀ w ∈ ws, ∀ (a' : Array Value) (U : State), s.WarmedH U.vm → w.before a' U = true) ∧ Cond.codeWith y bytes maxL ret hh ∈ ws) ∧
  (Cond.codeWith y bytes maxL ret hh).before args s = true ∧ (Cond.initialized y.cls).before args s = true ∧ (y.cls ≠ "java/lang/invoke/MethodHandle" ∧ y.cls ≠ "java/lang/invoke/VarHandle") ∧
  (∀ sig, parseMethodDescriptor y.desc = some sig → n = sig.parameters.length) ∧ (Cond.methodLink own index y).before args s = true ∧ (Cond.static y).before args s = true
theorem vx_cwSW {own : String} {index maxL mc ms : Nat} {y : MethodName} {bytes : ByteArray} {ret : Option FieldType} {hh : List (Nat × Nat × Nat × Nat)} {Ts ws ws' : List Cond} {rm : Room} (n : Nat) (ht : ∀ w ∈ Ts, w.before args s = true) (hT : GoodIn Ts (va_wsS own index y ws)) (hw : ws = Cond.codeWith y bytes maxL ret hh :: ws') (hrc : rm.cells = mc) (hrs : rm.slots = ms)
    (hd : y.cls ≠ "java/lang/invoke/MethodHandle" ∧ y.cls ≠ "java/lang/invoke/VarHandle" ∧ (parseMethodDescriptor y.desc).map (fun d => d.parameters.length) = some n) (hR : rm.frames + 1 ≤ R.frames ∧ 8 + (maxL + 11) + rm.locals ≤ R.locals) :
    vx_CSW R s args own index y bytes maxL ret hh ws rm mc ms n := by
  have ok : ∀ w ∈ va_wsS own index y ws, w.before args s = true := fun w h => ht w (hT w h).1
  have hG : GoodIn Ts ws := fun w h => hT w (by unfold va_wsS; exact List.mem_append_right _ h)
  have hc : Cond.codeWith y bytes maxL ret hh ∈ ws := by rw [hw]; exact List.mem_cons_self
  refine ⟨⟨hrc, hrs, hR.1, hR.2, pay_in ht hG, hc⟩, ht _ (hG _ hc).1, ok _ (by simp [va_wsS]), ⟨hd.1, hd.2.1⟩, fun sig h => ?_, ok _ (by simp [va_wsS]), ok _ (by simp [va_wsS])⟩
  have h2 := hd.2.2
  rw [h] at h2
  exact (Option.some.inj h2).symm
theorem vx_callSW (X : Stand p l e R s m args below meth c T locs cells slots) (hexec : p.tables.exec = Jvm.exec) {own : String} {index : Nat} {y : MethodName} {bytes : ByteArray} {maxL : Nat} {ret : Option FieldType} {hh : List (Nat × Nat × Nat × Nat)}
    (hown : s.vm.findClass own = some m.cls) (hlink : (Cond.methodLink own index y).before args s = true) (hstat : (Cond.static y).before args s = true) (hinit : (Cond.initialized y.cls).before args s = true)
    (hcode : (Cond.codeWith y bytes maxL ret hh).before args s = true) (hy : y.cls ≠ "java/lang/invoke/MethodHandle" ∧ y.cls ≠ "java/lang/invoke/VarHandle")
    {W9 : Nat} {Pre : Pt → Array Value → Prop} {Post : Pt → Array Value → Option Value → Pt → Prop} (hK : Back l R p e below s args y 3 W9 Pre Post)
    {g : JFrame} (hg : g.method = m) (hsize : g.locals.size = c.maxLocals) {argsL rest : List Value} (hlen : ∀ sig, parseMethodDescriptor y.desc = some sig → argsL.length = sig.parameters.length)
    (hstack : g.stack = argsL.reverse ++ rest) (hW : 2 * g.monitorRoom + (rest.map fun v => v.category).sum ≤ W9) (hdg : decode c.code g.pc = .ok (.invokestatic index, 3))
    (hpre : ∀ vm₁, s.WarmedH vm₁ → Pre ⟨T.setVm vm₁, locs, cells, slots⟩ argsL.toArray) :
    ∃ (v : Option Value) (vm₁ : Vm) (B : Pt), s.WarmedH vm₁ ∧ Stand p l e R s m args below meth c B.U B.locs B.cells B.slots ∧ Post ⟨T.setVm vm₁, locs, cells, slots⟩ argsL.toArray v B ∧
      ∀ target, Steps p.tables e below (B.U.setTop { g with pc := g.pc + 3, stack := v.toList ++ rest }) target → Steps p.tables e below (T.setTop g) target := by
  obtain ⟨mk, methM, cM, hnamed, hmethM, -, -, -, -, -, -, hsigM⟩ := Cond.codeWith_spec hcode
  have hstatic : methM.isStatic = true := Cond.static_spec hnamed hmethM hstat
  obtain ⟨kP, hkP, -⟩ := className_of_methodNamed hnamed
  have hinitP : kP.init = .initialized := Cond.initialized_spec (findClass_of_methodNamed hnamed) hkP hinit
  obtain ⟨vm₁, X₁, hstep₁⟩ := X.invokestatic hexec hown hlink hnamed hmethM hstatic hkP hinitP hy (g := g) hg (argsL := argsL) (rest := rest) (hlen _ hsigM) hstack hdg
  obtain ⟨v, B, X', hpost, hsteps⟩ := hK m meth c ⟨T.setVm vm₁, locs, cells, slots⟩ { g with stack := rest } (.invokestatic index) mk argsL.toArray X₁ hg hsize hdg hW (X₁.named hnamed) (hpre vm₁ X₁.warmed)
  exact ⟨v, vm₁, B, X₁.warmed, X', hpost, fun target h => hstep₁ _ fun acts => by rw [doInvoke_state]; exact hsteps.trans h⟩
theorem vx_runSW {y : MethodName} {bytes cc : ByteArray} {maxL nL mc ms n index : Nat} {ret : Option FieldType} {hh : List (Nat × Nat × Nat × Nat)} {ws : List Cond} {rm : Room} {Pc : Array Value → State → Prop} {Qc : Array Value → State → Outcome → State → Prop} {free : Addr → Prop} {Ts : List Cond} {own : String} {As rest : List Value} {g : JFrame}
    (S : CallFix p m c cc nL s args Ts own) (hM : Met l y ws rm Pc Qc mc ms free) (cw : vx_CSW R s args own index y bytes maxL ret hh ws rm mc ms n) (hp : PreS s H Pc As)
    (hg : g.method = m) (hn : As.length = n) (hsize : g.locals.size = nL) (hstack : g.stack = As.reverse ++ rest) (hW : 2 * g.monitorRoom + (rest.map fun v => v.category).sum ≤ 8) (hdg : decode cc g.pc = .ok (.invokestatic index, 3)) (hf : cells + mc ≤ R.cells ∧ slots + ms ≤ R.slots) :
    va_Run p l e R s m args below meth c H locs cells slots mc ms g rest (Qc As.toArray) (free) := by
  obtain ⟨⟨hrc, hrs, hfr, hlo, hws, hcw⟩, hcode, hini, hy, hlen, hl, hstt⟩ := cw
  have hK : Back l R p e below s args y 3 8 (PreOf R mc ms Pc) (PostOf Qc mc ms free) := va_backW (hh := hh) (bytes := bytes) (maxL := maxL) (ret := ret) hM hp.1 hrc hrs hfr hlo hws hcw (fun a' U hW => word_at hW (Or.inl (by first | rfl | simp [Cond.onTables, Cond.keeps, Cond.steady])) hini)
  obtain ⟨hx, hb, hml, ho, -⟩ := S
  intro T hT X
  obtain ⟨v, vm₁, ⟨U', l2, c2, s2⟩, hW₁, X', ⟨g', mk, t, L, e1, e2, hq, h1, hL, h2, h3⟩, st⟩ := vx_callSW X hx (hh := hh) (bytes := bytes) (maxL := maxL) (ret := ret) ho hl hstt hini hcode hy hK hg (hsize.trans hml.symm) (argsL := As) (rest := rest) (fun sig h => hn.trans (hlen sig h)) hstack hW (by rw [hb]; exact hdg)
    (fun vm₁ hW₁ => ⟨hf.1, hf.2, hp.2 (T.setVm vm₁) hT hW₁⟩)
  dsimp only [Pt.U, Pt.locs, Pt.cells, Pt.slots] at X' e1 e2 h1 h2 h3 st
  subst h1; subst h2; subst h3
  exact ⟨v, (T.setVm vm₁).calling g' mk As.toArray, t, U', L, hT, X', hL, e1, e2, hq, st⟩
/-- not caught here, past rows that name other classes: it goes on to the caller -/
theorem vx_outP {p : Program} {l : Launch} {e : Env} {R : Room} {s : State} {m : MethodId} {args : Array Value} {below : List Frame} {meth : Method} {c : Code} {H : Heap} {locs : List Loc} {cells slots : Nat} {free : Addr → Prop} {ls : Array Slot} {rest : List Value} {Qc : Array Value → State → Outcome → State → Prop} {XC : String → State → State → Prop}
    {pc : Nat} {own E : String} {ce : Cell} {q : Addr} {mc ms : Nat} (hown : s.vm.findClass own = some m.cls) (hlocks : meth.locks = false)
    (hpass : ∀ z ∈ c.exceptionTable.toList, covers z pc = false ∨ (z.catchType ≠ 0 ∧ ∃ nm : String, (Cond.classLink own z.catchType nm).before args s = true ∧ va_Nc E nm s)) (hcell : H[q]? = some ce) (hv : ce.vm = .none) (hcl : s.vm.findClass E = some ce.cls)
    (hx : ∀ t : State, t.heap = H → s.vm.Alike t.vm → XC E s t) (hf : ∀ z ∈ locs, free z.base) (hc : cells ≤ mc) (hs : slots ≤ ms) :
    vx_W p l e R s m args below meth c H locs cells slots (vx_MQ below Qc XC args s mc ms free) (F0 m pc ls rest) q := by
  intro T hT X
  have hpl : e.platform.magicAccessors = ({} : Platform).magicAccessors := by rw [X.admits.platform]
  obtain ⟨vm', hW', X', st⟩ := X.outThrough hlocks q (g := F0 m pc ls rest) rfl rfl rfl (cell := ce) (by rw [hT]; exact hcell) (by rw [hv]; rfl)
    (by obtain ⟨k9, h9, -⟩ := Vm.findClass_spec hcl; exact ⟨k9, h9⟩) (fun z hz => by
      rcases hpass z hz with h | ⟨hz0, nm, hl1, hn1⟩
      · exact Or.inl h
      · obtain ⟨c6, hc6, hcl6⟩ := Cond.classLink_spec hown hl1 e.platform hpl
        obtain ⟨a8, b8, h1, h2, h3⟩ := hn1
        cases Option.some.inj (h1.symm.trans hcl)
        cases Option.some.inj (h2.symm.trans hc6)
        exact Or.inr ⟨hz0, _, hcl6, h3⟩)
  obtain ⟨g₀, hfr⟩ := X'.frames_eq
  have hcell9 : ((T.setVm vm').setFrames (.throwing q :: below)).heap[q]? = some ce := by
    show T.heap[q]? = some ce
    rw [hT]; exact hcell
  have hend : Ended ((T.setVm vm').setFrames (.throwing q :: below)) below (.threw q) := State.frames_setFrames _ (State.cur_lt_of_frames hfr)
  refine ⟨(T.setVm vm').setFrames (.throwing q :: below), ?_, .threw q, X'.here.running, hend, Or.inr ⟨q, rfl, E, ce, locs, hx _ hT (X'.ends _).1.alike, hcell9, hv, hcl, (X'.ends _).1, (X'.ends _).2.mono hc hs, hf⟩⟩
  rw [X.pushThrowing_eq]
  exact st
/-- a thing of a world lies in the heap -/
theorem vx_lt {D : va_G} {cl : List vw_C} {ws : va_W} {H1 : Heap} (h : va_P D cl ws H1) {k : Nat} {q : Nat × va_E} (hk : ws[k]? = some q) : q.1 < H1.size := (h k q hk).lt
end VXS
/-! ===== END ===== -/
/-! ===== BEGIN methods with a table of their own: called by a name, returning or throwing ===== -/
section VXH
/-! vx_backW, vx_callVX, vx_callSX, vx_callVW, vx_runVW, vx_runVX, vx_runSX, vx_ofWH follow the same proofs as their sisters above (Free/Laws.lean, Shelf42/LK1.lean); vx_outP calls Shelf42/NT130.lean (outThrough). -/
section
variable {l : Launch} {R : Room} {p : Program} {e : Env} {below : List Frame} {s : State} {sargs : Array Value} {y : MethodName} {len W9 : Nat}
theorem vx_backW {ws : List Cond} {rm : Room} {Pc : Array Value → State → Prop} {Qc : Array Value → State → Outcome → State → Prop} {XC : String → State → State → Prop} {mc ms : Nat} {free : Addr → Prop} {bytes : ByteArray} {maxL : Nat} {ret : Option FieldType} {hh : List (Nat × Nat × Nat × Nat)}
    (hM : vx_Met l y ws rm Pc Qc XC mc ms free) (hblind : FrameBlind Pc) (hrc : rm.cells = mc) (hrs : rm.slots = ms)
    (hframes : rm.frames + 1 ≤ R.frames) (hlocals : W9 + (maxL + 11) + rm.locals ≤ R.locals)
    (hws : ∀ w ∈ ws, ∀ a' U, s.WarmedH U.vm → w.before a' U = true) (hcode : Cond.codeWith y bytes maxL ret hh ∈ ws) (hinit : ∀ a' U, s.WarmedH U.vm → (Cond.initialized y.cls).before a' U = true) :
    vx_Back l R p e below s sargs y len W9 (PreOf R mc ms Pc) (PostOf Qc mc ms free) (vx_Post XC mc ms free) := by
  intro m meth c A g ig mk a X hg hsize hdg hW hn hp
  have h1 : (headSpec ws rm).pre.before a A.U = true := atoms_intro fun w hw => hws w hw _ _ X.warmed
  have h2 : (Cond.codeWith y bytes maxL ret hh).before a A.U = true := hws _ hcode _ _ X.warmed
  have h3 : (Cond.initialized y.cls).before a A.U = true := hinit _ _ X.warmed
  have h4 : A.cells + (headSpec ws rm).room.cells ≤ R.cells := by rw [show (headSpec ws rm).room.cells = mc from hrc]; exact hp.1
  have h5 : A.slots + (headSpec ws rm).room.slots ≤ R.slots := by rw [show (headSpec ws rm).room.slots = ms from hrs]; exact hp.2.1
  have hPc : Pc a (A.U.calling g mk a) := hblind _ _ _ _ hp.2.2
  obtain ⟨U, Ls, c0, s0⟩ := A
  dsimp only [Pt.U, Pt.locs, Pt.cells, Pt.slots] at h1 h2 h3 h4 h5 X hn hPc ⊢
  obtain ⟨m9, methY, cY, hn9, hmY, hcY, -, hlY, -⟩ := Cond.codeWith_spec h2
  cases Option.some.inj (hn9.symm.trans hn)
  obtain ⟨kY, hkY, -⟩ := className_of_methodNamed hn
  have hinitY : kY.init = .initialized := Cond.initialized_spec (findClass_of_methodNamed hn) hkY h3
  have h : At U g.method c below := by rw [hg]; exact X.here
  have hlocals9 : W9 + (maxL + 11) + (headSpec ws rm).room.locals ≤ R.locals := hlocals
  have happ : (headSpec ws rm).appliesLoose y e.platform (U.calling g mk a) = true :=
    Spec.appliesLoose_calling (g := g) h hdg hn hkY hinitY
      (X.room_calling (g := g) (R' := (headSpec ws rm).room) hsize hmY hcY hframes (by rw [hlY]; omega) h4 h5) h1
  obtain ⟨mid, hmid⟩ := h.above
  have hfr : (U.setTop g).frames = (.java g :: mid) ++ below := by rw [State.frames_setTop' g h.top, hmid]; rfl
  obtain ⟨o, s₂, hsteps, -, hend, hq⟩ := Steps.callFree hM p X.admits X.cas X.clock (acts := []) hfr happ hPc trivial
  have hq' : vx_Q Qc XC mc ms free a (U.calling g mk a) o s₂ := hq
  rw [State.frames_setTop' g h.top] at hend
  obtain ⟨g₀, hg0⟩ := Option.isSome_iff_exists.mp h.top
  obtain ⟨r, hr⟩ := State.topJava?_eq_some.mp hg0
  have hr' : (({ U with heap := s₂.heap, slotsUsed := s₂.slotsUsed } : State).setVm s₂.vm).frames = .java g₀ :: r := hr
  rcases hq' with ⟨hqc, L, hfe, hL⟩ | ⟨q, rfl, E, ce, L, hx, hce, hcv, hcl, hW₂, hsm, hL⟩
  · obtain ⟨⟨v, rfl⟩, hW₂, e2, q2, q3, q4, q5, q6⟩ := id hfe
    have e3 : s₂ = ({ (U.calling g mk a).setFrames s₂.frames with heap := s₂.heap, slotsUsed := s₂.slotsUsed } : State).setVm s₂.vm := by
      have : s₂ = ({ s₂ with vm := (U.calling g mk a).vm } : State).setVm s₂.vm := rfl
      rw [e2] at this
      exact this
    obtain ⟨c₂, i₂, len₂, hc₂, hd₂, hf₂⟩ := hend
    have hW' : U.WarmedH s₂.vm := hW₂
    have hcc : c₂ = c := by
      have h1 : s₂.code? g.method = U.code? g.method := by
        rw [State.code?_eq, State.code?_eq, hW'.alike.method?]
      exact Option.some.inj (hc₂.symm.trans (h1.trans h.code))
    subst hcc
    have hlen : len₂ = len := by rw [hdg] at hd₂; cases hd₂; rfl
    subst hlen
    have hs₂ : s₂ = (({ U with heap := s₂.heap, slotsUsed := s₂.slotsUsed } : State).setVm s₂.vm).setTop { g with pc := g.pc + len₂, stack := v.toList ++ g.stack } := by
      refine e3.trans ?_
      rw [hf₂, State.calling_eq h.top, State.setFrames_setFrames, State.setTop_of_frames _ hr', hr]
      rfl
    have hsame : U.sameButNew ({ U with heap := s₂.heap, slotsUsed := s₂.slotsUsed } : State) L mc ms := by
      refine ⟨?_, q2, q3, q4, q5, q6⟩
      obtain ⟨t, ht, -⟩ := State.frames_cons hr
      show ({ U with heap := s₂.heap, slotsUsed := s₂.slotsUsed } : State) = { U.setFrames U.frames with heap := s₂.heap, slotsUsed := s₂.slotsUsed }
      rw [State.setFrames_self ht]
    subst hg
    refine Or.inl ⟨v, ⟨(({ U with heap := s₂.heap, slotsUsed := s₂.slotsUsed } : State).setVm s₂.vm), Ls ++ L, c0 + mc, s0 + ms⟩,
      ⟨X.admits, X.cas, X.clock, X.frames, X.room, X.hears, X.method, X.code, (X.here.setHeapUsed s₂.heap s₂.slotsUsed).setVm hW'.alike, X.tail, State.WarmedH.trans X.warmed hW', X.limits, X.bytes, X.same.trans (hsame.setVm s.vm)⟩,
      ⟨g, mk, s₂, L, rfl, rfl, hqc, rfl, hL, rfl, rfl⟩, ?_⟩
    show Steps p.tables e below _ ((({ U with heap := s₂.heap, slotsUsed := s₂.slotsUsed } : State).setVm s₂.vm).setTop { g with pc := g.pc + len₂, stack := v.toList ++ g.stack })
    rw [← hs₂]
    exact hsteps
  · obtain ⟨e2, q2, q3, q4, q5, q6⟩ := id hsm
    have e3 : s₂ = ({ (U.calling g mk a).setFrames s₂.frames with heap := s₂.heap, slotsUsed := s₂.slotsUsed } : State).setVm s₂.vm := by
      have : s₂ = ({ s₂ with vm := (U.calling g mk a).vm } : State).setVm s₂.vm := rfl
      rw [e2] at this
      exact this
    have hf₂ : s₂.frames = .throwing q :: .java g :: U.frames.tail := hend
    have hW' : U.WarmedH s₂.vm := hW₂
    have hs₂ : s₂ = ((({ U with heap := s₂.heap, slotsUsed := s₂.slotsUsed } : State).setVm s₂.vm).setTop g).pushFrame (.throwing q) := by
      refine e3.trans ?_
      rw [hf₂, State.calling_eq h.top, State.setFrames_setFrames, State.pushFrame, State.frames_setTop _ hr', State.setTop_of_frames _ hr', State.setFrames_setFrames, hr]
      rfl
    have hsame : U.sameButNew ({ U with heap := s₂.heap, slotsUsed := s₂.slotsUsed } : State) L mc ms := by
      refine ⟨?_, q2, q3, q4, q5, q6⟩
      obtain ⟨t, ht, -⟩ := State.frames_cons hr
      show ({ U with heap := s₂.heap, slotsUsed := s₂.slotsUsed } : State) = { U.setFrames U.frames with heap := s₂.heap, slotsUsed := s₂.slotsUsed }
      rw [State.setFrames_self ht]
    subst hg
    refine Or.inr ⟨q, ⟨(({ U with heap := s₂.heap, slotsUsed := s₂.slotsUsed } : State).setVm s₂.vm), Ls ++ L, c0 + mc, s0 + ms⟩,
      ⟨X.admits, X.cas, X.clock, X.frames, X.room, X.hears, X.method, X.code, (X.here.setHeapUsed s₂.heap s₂.slotsUsed).setVm hW'.alike, X.tail, State.WarmedH.trans X.warmed hW', X.limits, X.bytes, X.same.trans (hsame.setVm s.vm)⟩,
      ⟨g, mk, s₂, L, E, ce, rfl, rfl, hx, hce, hcv, hcl, rfl, hL, rfl, rfl⟩, ?_⟩
    show Steps p.tables e below _ (((({ U with heap := s₂.heap, slotsUsed := s₂.slotsUsed } : State).setVm s₂.vm).setTop g).pushFrame (.throwing q))
    rw [← hs₂]
    exact hsteps
end
variable {p : Program} {l : Launch} {e : Env} {R : Room} {s : State} {m : MethodId} {args : Array Value} {below : List Frame} {meth : Method} {c : Code} {T : State} {H : Heap} {locs : List Loc} {cells slots : Nat}
theorem vx_callVX (X : Stand p l e R s m args below meth c T locs cells slots) (hexec : p.tables.exec = Jvm.exec) {own C : String} {index : Nat} {y : MethodName} {bytes : ByteArray} {maxL : Nat} {ret : Option FieldType} {hh : List (Nat × Nat × Nat × Nat)}
    (hown : s.vm.findClass own = some m.cls) (hlink : (Cond.methodLink own index y).before args s = true) (hinst : (Cond.instanceMethod y).before args s = true) (hsel : (Cond.selects C y y).before args s = true)
    (hcode : (Cond.codeWith y bytes maxL ret hh).before args s = true) (hy : y.cls ≠ "java/lang/invoke/MethodHandle" ∧ y.cls ≠ "java/lang/invoke/VarHandle")
    {W9 : Nat} {Pre : Pt → Array Value → Prop} {Post : Pt → Array Value → Option Value → Pt → Prop} {PostX : Pt → Array Value → Addr → Pt → Prop} (hK : vx_Back l R p e below s args y 3 W9 Pre Post PostX)
    {b : Addr} {cellB : Cell} (hcell : T.heap[b]? = some cellB) (hobj : cellB.vm.isStatics = false) (hcls : s.vm.findClass C = some cellB.cls)
    {g : JFrame} (hg : g.method = m) (hsize : g.locals.size = c.maxLocals) {argsL rest : List Value} (hlen : ∀ sig, parseMethodDescriptor y.desc = some sig → argsL.length = sig.parameters.length)
    (hstack : g.stack = argsL.reverse ++ .ref b :: rest) (hW : 2 * g.monitorRoom + (rest.map fun v => v.category).sum ≤ W9) (hdg : decode c.code g.pc = .ok (.invokevirtual index, 3))
    (hpre : ∀ vm₁, s.WarmedH vm₁ → Pre ⟨T.setVm vm₁, locs, cells, slots⟩ (Value.ref b :: argsL).toArray) :
    (∃ (v : Option Value) (vm₁ : Vm) (B : Pt), s.WarmedH vm₁ ∧ Stand p l e R s m args below meth c B.U B.locs B.cells B.slots ∧ Post ⟨T.setVm vm₁, locs, cells, slots⟩ (Value.ref b :: argsL).toArray v B ∧
      ∀ target, Steps p.tables e below (B.U.setTop { g with pc := g.pc + 3, stack := v.toList ++ rest }) target → Steps p.tables e below (T.setTop g) target) ∨
    (∃ (q : Addr) (vm₁ : Vm) (B : Pt), s.WarmedH vm₁ ∧ Stand p l e R s m args below meth c B.U B.locs B.cells B.slots ∧ PostX ⟨T.setVm vm₁, locs, cells, slots⟩ (Value.ref b :: argsL).toArray q B ∧
      Steps p.tables e below (T.setTop g) ((B.U.setTop { g with stack := rest }).pushFrame (.throwing q))) := by
  obtain ⟨mk, methM, hnamed, hmethM, hstM, habM⟩ := Cond.instanceMethod_spec hinst
  obtain ⟨m8, methM', cM, hn8, hmethM', -, -, -, -, -, -, hsigM⟩ := Cond.codeWith_spec hcode
  cases Option.some.inj (hn8.symm.trans hnamed)
  cases hmethM.symm.trans hmethM'
  obtain ⟨c2, r2, m2, q1, q2, q3, q4, kP, hkP, hkPi⟩ := Cond.selects_spec hsel
  cases hcls.symm.trans q1
  cases (State.methodFound?_of_named hnamed hy).symm.trans q2
  cases hnamed.symm.trans q3
  have hselP : selectMethod e.platform s.vm cellB.cls mk = .method mk := by rw [Launch.admits_selectMethod X.admits]; exact q4
  obtain ⟨vm₁, X₁, hstep₁⟩ := X.invokevirtual hexec hown hlink hnamed hmethM hstM hkP hkPi hy (a := b) (cell := cellB) hcell
    (fun z h => by rw [h] at hobj; cases hobj) hselP hmethM habM hkP hkPi (g := g) hg (argsL := argsL) (rest := rest) (hlen _ hsigM) hstack hdg
  rcases hK m meth c ⟨T.setVm vm₁, locs, cells, slots⟩ { g with stack := rest } (.invokevirtual index) mk (Value.ref b :: argsL).toArray X₁ hg hsize hdg hW (X₁.named hnamed) (hpre vm₁ X₁.warmed) with ⟨v, B, X', hpost, hsteps⟩ | ⟨q, B, X', hpost, hsteps⟩
  · exact Or.inl ⟨v, vm₁, B, X₁.warmed, X', hpost, fun target h => hstep₁ _ fun acts => by rw [doInvoke_state]; exact hsteps.trans h⟩
  · exact Or.inr ⟨q, vm₁, B, X₁.warmed, X', hpost, hstep₁ _ fun acts => by rw [doInvoke_state]; exact hsteps⟩
theorem vx_callSX (X : Stand p l e R s m args below meth c T locs cells slots) (hexec : p.tables.exec = Jvm.exec) {own : String} {index : Nat} {y : MethodName} {bytes : ByteArray} {maxL : Nat} {ret : Option FieldType} {hh : List (Nat × Nat × Nat × Nat)}
    (hown : s.vm.findClass own = some m.cls) (hlink : (Cond.methodLink own index y).before args s = true) (hstat : (Cond.static y).before args s = true) (hinit : (Cond.initialized y.cls).before args s = true)
    (hcode : (Cond.codeWith y bytes maxL ret hh).before args s = true) (hy : y.cls ≠ "java/lang/invoke/MethodHandle" ∧ y.cls ≠ "java/lang/invoke/VarHandle")
    {W9 : Nat} {Pre : Pt → Array Value → Prop} {Post : Pt → Array Value → Option Value → Pt → Prop} {PostX : Pt → Array Value → Addr → Pt → Prop} (hK : vx_Back l R p e below s args y 3 W9 Pre Post PostX)
    {g : JFrame} (hg : g.method = m) (hsize : g.locals.size = c.maxLocals) {argsL rest : List Value} (hlen : ∀ sig, parseMethodDescriptor y.desc = some sig → argsL.length = sig.parameters.length)
    (hstack : g.stack = argsL.reverse ++ rest) (hW : 2 * g.monitorRoom + (rest.map fun v => v.category).sum ≤ W9) (hdg : decode c.code g.pc = .ok (.invokestatic index, 3))
    (hpre : ∀ vm₁, s.WarmedH vm₁ → Pre ⟨T.setVm vm₁, locs, cells, slots⟩ argsL.toArray) :
    (∃ (v : Option Value) (vm₁ : Vm) (B : Pt), s.WarmedH vm₁ ∧ Stand p l e R s m args below meth c B.U B.locs B.cells B.slots ∧ Post ⟨T.setVm vm₁, locs, cells, slots⟩ argsL.toArray v B ∧
      ∀ target, Steps p.tables e below (B.U.setTop { g with pc := g.pc + 3, stack := v.toList ++ rest }) target → Steps p.tables e below (T.setTop g) target) ∨
    (∃ (q : Addr) (vm₁ : Vm) (B : Pt), s.WarmedH vm₁ ∧ Stand p l e R s m args below meth c B.U B.locs B.cells B.slots ∧ PostX ⟨T.setVm vm₁, locs, cells, slots⟩ argsL.toArray q B ∧
      Steps p.tables e below (T.setTop g) ((B.U.setTop { g with stack := rest }).pushFrame (.throwing q))) := by
  obtain ⟨mk, methM, cM, hnamed, hmethM, -, -, -, -, -, -, hsigM⟩ := Cond.codeWith_spec hcode
  have hstatic : methM.isStatic = true := Cond.static_spec hnamed hmethM hstat
  obtain ⟨kP, hkP, -⟩ := className_of_methodNamed hnamed
  have hinitP : kP.init = .initialized := Cond.initialized_spec (findClass_of_methodNamed hnamed) hkP hinit
  obtain ⟨vm₁, X₁, hstep₁⟩ := X.invokestatic hexec hown hlink hnamed hmethM hstatic hkP hinitP hy (g := g) hg (argsL := argsL) (rest := rest) (hlen _ hsigM) hstack hdg
  rcases hK m meth c ⟨T.setVm vm₁, locs, cells, slots⟩ { g with stack := rest } (.invokestatic index) mk argsL.toArray X₁ hg hsize hdg hW (X₁.named hnamed) (hpre vm₁ X₁.warmed) with ⟨v, B, X', hpost, hsteps⟩ | ⟨q, B, X', hpost, hsteps⟩
  · exact Or.inl ⟨v, vm₁, B, X₁.warmed, X', hpost, fun target h => hstep₁ _ fun acts => by rw [doInvoke_state]; exact hsteps.trans h⟩
  · exact Or.inr ⟨q, vm₁, B, X₁.warmed, X', hpost, hstep₁ _ fun acts => by rw [doInvoke_state]; exact hsteps⟩
theorem vx_callVW (X : Stand p l e R s m args below meth c T locs cells slots) (hexec : p.tables.exec = Jvm.exec) {own C : String} {index : Nat} {y : MethodName} {bytes : ByteArray} {maxL : Nat} {ret : Option FieldType} {hh : List (Nat × Nat × Nat × Nat)}
    (hown : s.vm.findClass own = some m.cls) (hlink : (Cond.methodLink own index y).before args s = true) (hinst : (Cond.instanceMethod y).before args s = true) (hsel : (Cond.selects C y y).before args s = true)
    (hcode : (Cond.codeWith y bytes maxL ret hh).before args s = true) (hy : y.cls ≠ "java/lang/invoke/MethodHandle" ∧ y.cls ≠ "java/lang/invoke/VarHandle")
    {W9 : Nat} {Pre : Pt → Array Value → Prop} {Post : Pt → Array Value → Option Value → Pt → Prop} (hK : Back l R p e below s args y 3 W9 Pre Post)
    {b : Addr} {cellB : Cell} (hcell : T.heap[b]? = some cellB) (hobj : cellB.vm.isStatics = false) (hcls : s.vm.findClass C = some cellB.cls)
    {g : JFrame} (hg : g.method = m) (hsize : g.locals.size = c.maxLocals) {argsL rest : List Value} (hlen : ∀ sig, parseMethodDescriptor y.desc = some sig → argsL.length = sig.parameters.length)
    (hstack : g.stack = argsL.reverse ++ .ref b :: rest) (hW : 2 * g.monitorRoom + (rest.map fun v => v.category).sum ≤ W9) (hdg : decode c.code g.pc = .ok (.invokevirtual index, 3))
    (hpre : ∀ vm₁, s.WarmedH vm₁ → Pre ⟨T.setVm vm₁, locs, cells, slots⟩ (Value.ref b :: argsL).toArray) :
    ∃ (v : Option Value) (vm₁ : Vm) (B : Pt), s.WarmedH vm₁ ∧ Stand p l e R s m args below meth c B.U B.locs B.cells B.slots ∧ Post ⟨T.setVm vm₁, locs, cells, slots⟩ (Value.ref b :: argsL).toArray v B ∧
      ∀ target, Steps p.tables e below (B.U.setTop { g with pc := g.pc + 3, stack := v.toList ++ rest }) target → Steps p.tables e below (T.setTop g) target := by
  obtain ⟨mk, methM, hnamed, hmethM, hstM, habM⟩ := Cond.instanceMethod_spec hinst
  obtain ⟨m8, methM', cM, hn8, hmethM', -, -, -, -, -, -, hsigM⟩ := Cond.codeWith_spec hcode
  cases Option.some.inj (hn8.symm.trans hnamed)
  cases hmethM.symm.trans hmethM'
  obtain ⟨c2, r2, m2, q1, q2, q3, q4, kP, hkP, hkPi⟩ := Cond.selects_spec hsel
  cases hcls.symm.trans q1
  cases (State.methodFound?_of_named hnamed hy).symm.trans q2
  cases hnamed.symm.trans q3
  have hselP : selectMethod e.platform s.vm cellB.cls mk = .method mk := by rw [Launch.admits_selectMethod X.admits]; exact q4
  obtain ⟨vm₁, X₁, hstep₁⟩ := X.invokevirtual hexec hown hlink hnamed hmethM hstM hkP hkPi hy (a := b) (cell := cellB) hcell
    (fun z h => by rw [h] at hobj; cases hobj) hselP hmethM habM hkP hkPi (g := g) hg (argsL := argsL) (rest := rest) (hlen _ hsigM) hstack hdg
  obtain ⟨v, B, X', hpost, hsteps⟩ := hK m meth c ⟨T.setVm vm₁, locs, cells, slots⟩ { g with stack := rest } (.invokevirtual index) mk (Value.ref b :: argsL).toArray X₁ hg hsize hdg hW (X₁.named hnamed) (hpre vm₁ X₁.warmed)
  exact ⟨v, vm₁, B, X₁.warmed, X', hpost, fun target h => hstep₁ _ fun acts => by rw [doInvoke_state]; exact hsteps.trans h⟩
abbrev vx_CVW (R : Room) (s : State) (args : Array Value) (own C : String) (index : Nat) (y : MethodName) (bytes : ByteArray) (maxL : Nat) (ret : Option FieldType) (hh : List (Nat × Nat × Nat × Nat)) (ws : List Cond) (rm : Room) (mc ms n : Nat) : Prop :=
  (rm.cells = mc ∧ rm.slots = ms ∧ rm.frames + 1 ≤ R.frames ∧ 8 + (maxL + 11) + rm.locals ≤ R.locals ∧ (∀ w ∈ ws, ∀ (a' : Array Value) (U : State), s.WarmedH U.vm → w.before a' U = true) ∧ Cond.codeWith y bytes maxL ret hh ∈ ws) ∧
  (Cond.codeWith y bytes maxL ret hh).before args s = true ∧ (Cond.initialized y.cls).before args s = true ∧ (y.cls ≠ "java/lang/invoke/MethodHandle" ∧ y.cls ≠ "java/lang/invoke/VarHandle") ∧
  (∀ sig, parseMethodDescriptor y.desc = some sig → n = sig.parameters.length) ∧ (Cond.methodLink own index y).before args s = true ∧ (Cond.instanceMethod y).before args s = true ∧ (Cond.selects C y y).before args s = true
theorem vx_cwVW {own C : String} {index maxL mc ms : Nat} {y : MethodName} {bytes : ByteArray} {ret : Option FieldType} {hh : List (Nat × Nat × Nat × Nat)} {Ts ws ws' : List Cond} {rm : Room} (n : Nat) (ht : ∀ w ∈ Ts, w.before args s = true) (hT : GoodIn Ts (wsV own index C y ws)) (hw : ws = Cond.codeWith y bytes maxL ret hh :: ws') (hrc : rm.cells = mc) (hrs : rm.slots = ms)
    (hd : y.cls = C ∧ y.cls ≠ "java/lang/invoke/MethodHandle" ∧ y.cls ≠ "java/lang/invoke/VarHandle" ∧ (parseMethodDescriptor y.desc).map (fun d => d.parameters.length) = some n) (hR : rm.frames + 1 ≤ R.frames ∧ 8 + (maxL + 11) + rm.locals ≤ R.locals) :
    vx_CVW R s args own C index y bytes maxL ret hh ws rm mc ms n := by
  obtain ⟨hC, hd⟩ := hd
  subst hC
  have ok : ∀ w ∈ wsV own index y.cls y ws, w.before args s = true := fun w h => ht w (hT w h).1
  have hG : GoodIn Ts ws := fun w h => hT w (by unfold wsV; exact List.mem_append_right _ h)
  have hc : Cond.codeWith y bytes maxL ret hh ∈ ws := by rw [hw]; exact List.mem_cons_self
  refine ⟨⟨hrc, hrs, hR.1, hR.2, pay_in ht hG, hc⟩, ht _ (hG _ hc).1, ok _ (by simp [wsV]), ⟨hd.1, hd.2.1⟩, fun sig h => ?_, ok _ (by simp [wsV]), ok _ (by simp [wsV]), ok _ (by simp [wsV])⟩
  have h2 := hd.2.2
  rw [h] at h2
  exact (Option.some.inj h2).symm
theorem vx_runVW {y : MethodName} {bytes cc : ByteArray} {maxL nL mc ms n index : Nat} {ret : Option FieldType} {hh : List (Nat × Nat × Nat × Nat)} {ws : List Cond} {rm : Room} {Pc : Array Value → State → Prop} {Qc : Array Value → State → Outcome → State → Prop} {free : Addr → Prop} {Ts : List Cond} {own C : String} {b : Addr} {As rest : List Value} {g : JFrame}
    (S : CallFix p m c cc nL s args Ts own) (hM : Met l y ws rm Pc Qc mc ms free) (cw : vx_CVW R s args own C index y bytes maxL ret hh ws rm mc ms n) (hp : PreV s H C b Pc As)
    (hg : g.method = m) (hn : As.length = n) (hsize : g.locals.size = nL) (hstack : g.stack = As.reverse ++ .ref b :: rest) (hW : 2 * g.monitorRoom + (rest.map fun v => v.category).sum ≤ 8) (hdg : decode cc g.pc = .ok (.invokevirtual index, 3)) (hf : cells + mc ≤ R.cells ∧ slots + ms ≤ R.slots) :
    va_Run p l e R s m args below meth c H locs cells slots mc ms g rest (Qc (Value.ref b :: As).toArray) free := by
  obtain ⟨⟨hrc, hrs, hfr, hlo, hws, hcw⟩, hcode, hini, hy, hlen, hl, hin, hse⟩ := cw
  have hK : Back l R p e below s args y 3 8 (PreOf R mc ms Pc) (PostOf Qc mc ms free) := va_backW (hh := hh) (bytes := bytes) (maxL := maxL) (ret := ret) hM hp.1 hrc hrs hfr hlo hws hcw (fun a' U hW => word_at hW (Or.inl (by first | rfl | simp [Cond.onTables, Cond.keeps, Cond.steady])) hini)
  obtain ⟨hx, hb, hml, ho, -⟩ := S
  obtain ⟨-, ⟨cellB, hcB, hoB, hclB⟩, hPc⟩ := hp
  intro T hT X
  obtain ⟨v, vm₁, ⟨U', l2, c2, s2⟩, hW₁, X', ⟨g', mk, t, L, e1, e2, hq, h1, hL, h2, h3⟩, st⟩ := vx_callVW X hx (C := C) (hh := hh) (bytes := bytes) (maxL := maxL) (ret := ret) ho hl hin hse hcode hy hK (by rw [hT]; exact hcB) hoB hclB hg (hsize.trans hml.symm) (argsL := As) (rest := rest) (fun sig h => hn.trans (hlen sig h)) hstack hW (by rw [hb]; exact hdg)
    (fun vm₁ hW₁ => ⟨hf.1, hf.2, hPc (T.setVm vm₁) hT hW₁⟩)
  dsimp only [Pt.U, Pt.locs, Pt.cells, Pt.slots] at X' e1 e2 h1 h2 h3 st
  subst h1; subst h2; subst h3
  exact ⟨v, (T.setVm vm₁).calling g' mk (Value.ref b :: As).toArray, t, U', L, hT, X', hL, e1, e2, hq, st⟩
section
variable {y : MethodName} {bytes cc : ByteArray} {maxL nL mc ms n index : Nat} {ret : Option FieldType} {ws : List Cond} {rm : Room} {Pc : Array Value → State → Prop} {Qc : Array Value → State → Outcome → State → Prop} {XC : String → State → State → Prop} {free : Addr → Prop} {Ts : List Cond} {own C : String} {b : Addr} {As rest : List Value} {g : JFrame}
theorem vx_runVX {hh : List (Nat × Nat × Nat × Nat)} (S : CallFix p m c cc nL s args Ts own) (hM : vx_Met l y ws rm Pc Qc XC mc ms free) (cw : vx_CVW R s args own C index y bytes maxL ret hh ws rm mc ms n) (hp : PreV s H C b Pc As)
    (hg : g.method = m) (hn : As.length = n) (hsize : g.locals.size = nL) (hstack : g.stack = As.reverse ++ .ref b :: rest) (hW : 2 * g.monitorRoom + (rest.map fun v => v.category).sum ≤ 8) (hdg : decode cc g.pc = .ok (.invokevirtual index, 3)) (hf : cells + mc ≤ R.cells ∧ slots + ms ≤ R.slots) :
    vx_Run p l e R s m args below meth c H locs cells slots mc ms g rest (Qc (Value.ref b :: As).toArray) XC free := by
  obtain ⟨⟨hrc, hrs, hfr, hlo, hws, hcw⟩, hcode, hini, hy, hlen, hl, hin, hse⟩ := cw
  have hK : vx_Back l R p e below s args y 3 8 (PreOf R mc ms Pc) (PostOf Qc mc ms free) (vx_Post XC mc ms free) := vx_backW (hh := hh) (bytes := bytes) (maxL := maxL) (ret := ret) hM hp.1 hrc hrs hfr hlo hws hcw (fun a' U hW => word_at hW (Or.inl (by first | rfl | simp [Cond.onTables, Cond.keeps, Cond.steady])) hini)
  obtain ⟨hx, hb, hml, ho, -⟩ := S
  obtain ⟨-, ⟨cellB, hcB, hoB, hclB⟩, hPc⟩ := hp
  intro T hT X
  rcases vx_callVX X hx (C := C) (hh := hh) (bytes := bytes) (maxL := maxL) (ret := ret) ho hl hin hse hcode hy hK (by rw [hT]; exact hcB) hoB hclB hg (hsize.trans hml.symm) (argsL := As) (rest := rest) (fun sig h => hn.trans (hlen sig h)) hstack hW (by rw [hb]; exact hdg)
    (fun vm₁ hW₁ => ⟨hf.1, hf.2, hPc (T.setVm vm₁) hT hW₁⟩) with ⟨v, vm₁, ⟨U', l2, c2, s2⟩, hW₁, X', ⟨g', mk, t, L, e1, e2, hq, h1, hL, h2, h3⟩, st⟩ | ⟨q, vm₁, ⟨U', l2, c2, s2⟩, hW₁, X', ⟨g', mk, t, L, E, ce, e1, e2, hq, hce, hcv, hcl, h1, hL, h2, h3⟩, st⟩
  · dsimp only [Pt.U, Pt.locs, Pt.cells, Pt.slots] at X' e1 e2 h1 h2 h3 st
    subst h1; subst h2; subst h3
    exact Or.inl ⟨v, (T.setVm vm₁).calling g' mk (Value.ref b :: As).toArray, t, U', L, hT, X', hL, e1, e2, hq, st⟩
  · dsimp only [Pt.U, Pt.locs, Pt.cells, Pt.slots] at X' e1 e2 h1 h2 h3 st hcl
    subst h1; subst h2; subst h3
    exact Or.inr ⟨q, (T.setVm vm₁).calling g' mk (Value.ref b :: As).toArray, t, U', L, E, ce, hT, X', hL, e1, e2, hq, hce, hcv, vx_cls hW₁ hcl, st⟩
theorem vx_runSX {hh : List (Nat × Nat × Nat × Nat)} (S : CallFix p m c cc nL s args Ts own) (hM : vx_Met l y ws rm Pc Qc XC mc ms free) (cw : vx_CSW R s args own index y bytes maxL ret hh ws rm mc ms n) (hp : PreS s H Pc As)
    (hg : g.method = m) (hn : As.length = n) (hsize : g.locals.size = nL) (hstack : g.stack = As.reverse ++ rest) (hW : 2 * g.monitorRoom + (rest.map fun v => v.category).sum ≤ 8) (hdg : decode cc g.pc = .ok (.invokestatic index, 3)) (hf : cells + mc ≤ R.cells ∧ slots + ms ≤ R.slots) :
    vx_Run p l e R s m args below meth c H locs cells slots mc ms g rest (Qc As.toArray) XC free := by
  obtain ⟨⟨hrc, hrs, hfr, hlo, hws, hcw⟩, hcode, hini, hy, hlen, hl, hstt⟩ := cw
  have hK : vx_Back l R p e below s args y 3 8 (PreOf R mc ms Pc) (PostOf Qc mc ms free) (vx_Post XC mc ms free) := vx_backW (hh := hh) (bytes := bytes) (maxL := maxL) (ret := ret) hM hp.1 hrc hrs hfr hlo hws hcw (fun a' U hW => word_at hW (Or.inl (by first | rfl | simp [Cond.onTables, Cond.keeps, Cond.steady])) hini)
  obtain ⟨hx, hb, hml, ho, -⟩ := S
  intro T hT X
  rcases vx_callSX X hx (hh := hh) (bytes := bytes) (maxL := maxL) (ret := ret) ho hl hstt hini hcode hy hK hg (hsize.trans hml.symm) (argsL := As) (rest := rest) (fun sig h => hn.trans (hlen sig h)) hstack hW (by rw [hb]; exact hdg)
    (fun vm₁ hW₁ => ⟨hf.1, hf.2, hp.2 (T.setVm vm₁) hT hW₁⟩) with ⟨v, vm₁, ⟨U', l2, c2, s2⟩, hW₁, X', ⟨g', mk, t, L, e1, e2, hq, h1, hL, h2, h3⟩, st⟩ | ⟨q, vm₁, ⟨U', l2, c2, s2⟩, hW₁, X', ⟨g', mk, t, L, E, ce, e1, e2, hq, hce, hcv, hcl, h1, hL, h2, h3⟩, st⟩
  · dsimp only [Pt.U, Pt.locs, Pt.cells, Pt.slots] at X' e1 e2 h1 h2 h3 st
    subst h1; subst h2; subst h3
    exact Or.inl ⟨v, (T.setVm vm₁).calling g' mk As.toArray, t, U', L, hT, X', hL, e1, e2, hq, st⟩
  · dsimp only [Pt.U, Pt.locs, Pt.cells, Pt.slots] at X' e1 e2 h1 h2 h3 st hcl
    subst h1; subst h2; subst h3
    exact Or.inr ⟨q, (T.setVm vm₁).calling g' mk As.toArray, t, U', L, E, ce, hT, X', hL, e1, e2, hq, hce, hcv, vx_cls hW₁ hcl, st⟩
end
end VXH
theorem vx_ofWH {l : Launch} {y : MethodName} {ws ws' : List Cond} {rm : Room} {Pc : Array Value → State → Prop} {Qc : Array Value → State → Outcome → State → Prop} {XC : String → State → State → Prop} {mc ms : Nat} {free : Addr → Prop} {cc : ByteArray} {maxL : Nat} {ret : Option FieldType} {hh : List (Nat × Nat × Nat × Nat)}
    (hy : plainName y.cls = true) (hw : ws = Cond.codeWith y cc maxL ret hh :: ws')
    (body : ∀ p e s m args below meth c s₁, BodyLoose p l y (headSpec ws rm) cc maxL ret e s m args below meth c s₁ → c.maxLocals = maxL → Pc args s →
      W p l e (headSpec ws rm).room s m args below meth c s.heap [] 0 0 (vx_MQ below Qc XC args s mc ms free) (entryFrame m args maxL)) : vx_Met l y ws rm Pc Qc XC mc ms free := by
  refine MetFree.of_bodyS (code := cc) (maxLocals := maxL) (ret := ret) hy ?_ ?_
  · intro args s m h hn
    obtain ⟨m9, meth, c, hn9, h1, h2, h3, h4, -, h5, h6, -⟩ := Cond.codeWith_spec (atoms_spec (ws := ws) h _ (by rw [hw]; exact List.mem_cons_self))
    cases hn.symm.trans hn9
    exact ⟨meth, c, h1, h2, h3, h4, h5, h6⟩
  · intro p e s m args below meth c s₁ B hml hP _
    have hh0 : s₁.heap = s.heap := by rw [B.state]; rfl
    obtain ⟨t, a1, o, b1, b2, b3⟩ := body p e s m args below meth c s₁ B hml hP s₁ hh0 (Stand.of_body B)
    exact ⟨t, o, a1, b1, b2, b3⟩
/-! ===== END ===== -/

/-! ===== BEGIN printed: names, fields, word lists, decode rows ===== -/
end
section
def RX0 : String := "Suffixhall$Dictionary"
def TX0 : u_T := fun k => match k with
  | 0 => ("Suffixhall$Dictionary", "patterns", "[LSuffixhall$Row;", true)
  | _ => ("Suffixhall$Dictionary", "many", "I", false)
def tyX0 : Nat → FieldType := fun k => match k with
  | 0 => .array (.object "Suffixhall$Row")
  | _ => .int
abbrev wsX00 : List Cond := u_ws RX0 TX0 2
theorem nmX0 : ∀ a, a < 2 → ∀ b, b < 2 → a ≠ b → (TX0 a).2.1 ≠ (TX0 b).2.1 := by decide +kernel
theorem tyX0_ok : ∀ k, k < 2 → parseFieldDescriptor (TX0 k).2.2.1 = some (tyX0 k) := by decide +kernel
abbrev cX0_init : ByteArray := prog_2_method_1_code
def yX0_init : MethodName := ⟨RX0, "<init>", "()V"⟩
def RX1 : String := "Suffixhall$Edits"
def TX1 : u_T := fun k => match k with
  | 0 => ("Suffixhall$Edits", "source", "[C", true)
  | 1 => ("Suffixhall$Edits", "target", "[C", true)
  | 2 => ("Suffixhall$Edits", "fewest", "[[I", true)
  | 3 => ("Suffixhall$Edits", "sourceSize", "I", false)
  | _ => ("Suffixhall$Edits", "targetSize", "I", false)
def tyX1 : Nat → FieldType := fun k => match k with
  | 0 => .array .char
  | 1 => .array .char
  | 2 => .array (.array .int)
  | 3 => .int
  | _ => .int
abbrev wsX10 : List Cond := u_ws RX1 TX1 5
theorem nmX1 : ∀ a, a < 5 → ∀ b, b < 5 → a ≠ b → (TX1 a).2.1 ≠ (TX1 b).2.1 := by decide +kernel
theorem tyX1_ok : ∀ k, k < 5 → parseFieldDescriptor (TX1 k).2.2.1 = some (tyX1 k) := by decide +kernel
abbrev cX1_init : ByteArray := prog_3_method_1_code
def yX1_init : MethodName := ⟨RX1, "<init>", "()V"⟩
def RX2 : String := "Suffixhall$Hall"
def TX2 : u_T := fun k => match k with
  | 0 => ("Suffixhall$Hall", "present", "LSuffixhall$View;", true)
  | 1 => ("Suffixhall$Hall", "shelves", "[LSuffixhall$View;", true)
  | 2 => ("Suffixhall$Hall", "snapshots", "[I", true)
  | 3 => ("Suffixhall$Hall", "segmentList", "LSuffixhall$Segments;", true)
  | 4 => ("Suffixhall$Hall", "dictionary", "LSuffixhall$Dictionary;", true)
  | 5 => ("Suffixhall$Hall", "added", "I", false)
  | _ => ("Suffixhall$Hall", "taken", "I", false)
def tyX2 : Nat → FieldType := fun k => match k with
  | 0 => .object "Suffixhall$View"
  | 1 => .array (.object "Suffixhall$View")
  | 2 => .array .int
  | 3 => .object "Suffixhall$Segments"
  | 4 => .object "Suffixhall$Dictionary"
  | 5 => .int
  | _ => .int
abbrev wsX20 : List Cond := u_ws RX2 TX2 7
theorem nmX2 : ∀ a, a < 7 → ∀ b, b < 7 → a ≠ b → (TX2 a).2.1 ≠ (TX2 b).2.1 := by decide +kernel
theorem tyX2_ok : ∀ k, k < 7 → parseFieldDescriptor (TX2 k).2.2.1 = some (tyX2 k) := by decide +kernel
abbrev cX2_init : ByteArray := prog_4_method_1_code
def yX2_init : MethodName := ⟨RX2, "<init>", "()V"⟩
abbrev cX2_present : ByteArray := prog_4_method_2_code
def yX2_present : MethodName := ⟨RX2, "present", "()LSuffixhall$View;"⟩
abbrev cX2_viewOf : ByteArray := prog_4_method_5_code
def yX2_viewOf : MethodName := ⟨RX2, "viewOf", "(I)LSuffixhall$View;"⟩
abbrev cX2_shelf : ByteArray := prog_4_method_6_code
def yX2_shelf : MethodName := ⟨RX2, "shelf", "(I)LSuffixhall$View;"⟩
abbrev cX2_hasRoom : ByteArray := prog_4_method_7_code
def yX2_hasRoom : MethodName := ⟨RX2, "hasRoom", "()Z"⟩
abbrev cX2_takeIn : ByteArray := prog_4_method_8_code
def yX2_takeIn : MethodName := ⟨RX2, "takeIn", "(LSuffixhall$Row;)I"⟩
abbrev cX2_widen : ByteArray := prog_4_method_9_code
def yX2_widen : MethodName := ⟨RX2, "widen", "(IILSuffixhall$Row;)V"⟩
abbrev cX2_bury : ByteArray := prog_4_method_12_code
def yX2_bury : MethodName := ⟨RX2, "bury", "(I)V"⟩
abbrev cX2_canTake : ByteArray := prog_4_method_13_code
def yX2_canTake : MethodName := ⟨RX2, "canTake", "()Z"⟩
abbrev cX2_snapshotsKept : ByteArray := prog_4_method_14_code
def yX2_snapshotsKept : MethodName := ⟨RX2, "snapshotsKept", "()I"⟩
abbrev cX2_take : ByteArray := prog_4_method_15_code
def yX2_take : MethodName := ⟨RX2, "take", "()I"⟩
abbrev cX2_shelfOf : ByteArray := prog_4_method_16_code
def yX2_shelfOf : MethodName := ⟨RX2, "shelfOf", "(I)I"⟩
abbrev cX2_isWhole : ByteArray := prog_4_method_19_code
def yX2_isWhole : MethodName := ⟨RX2, "isWhole", "()Z"⟩
def RX3 : String := "Suffixhall$Pairs"
def TX3 : u_T := fun k => match k with
  | 0 => ("Suffixhall$Pairs", "symbols", "[I", true)
  | 1 => ("Suffixhall$Pairs", "left", "I", false)
  | _ => ("Suffixhall$Pairs", "made", "I", false)
def tyX3 : Nat → FieldType := fun k => match k with
  | 0 => .array .int
  | 1 => .int
  | _ => .int
abbrev wsX30 : List Cond := u_ws RX3 TX3 3
theorem nmX3 : ∀ a, a < 3 → ∀ b, b < 3 → a ≠ b → (TX3 a).2.1 ≠ (TX3 b).2.1 := by decide +kernel
theorem tyX3_ok : ∀ k, k < 3 → parseFieldDescriptor (TX3 k).2.2.1 = some (tyX3 k) := by decide +kernel
abbrev cX3_init : ByteArray := prog_5_method_1_code
def yX3_init : MethodName := ⟨RX3, "<init>", "()V"⟩
def RX4 : String := "Suffixhall$Parse"
def TX4 : u_T := fun k => match k with
  | 0 => ("Suffixhall$Parse", "begins", "[I", true)
  | 1 => ("Suffixhall$Parse", "sizes", "[I", true)
  | 2 => ("Suffixhall$Parse", "firsts", "[I", true)
  | 3 => ("Suffixhall$Parse", "many", "I", false)
  | 4 => ("Suffixhall$Parse", "longest", "I", false)
  | _ => ("Suffixhall$Parse", "first", "I", false)
def tyX4 : Nat → FieldType := fun k => match k with
  | 0 => .array .int
  | 1 => .array .int
  | 2 => .array .int
  | 3 => .int
  | 4 => .int
  | _ => .int
abbrev wsX40 : List Cond := u_ws RX4 TX4 6
theorem nmX4 : ∀ a, a < 6 → ∀ b, b < 6 → a ≠ b → (TX4 a).2.1 ≠ (TX4 b).2.1 := by decide +kernel
theorem tyX4_ok : ∀ k, k < 6 → parseFieldDescriptor (TX4 k).2.2.1 = some (tyX4 k) := by decide +kernel
abbrev cX4_init : ByteArray := prog_6_method_1_code
def yX4_init : MethodName := ⟨RX4, "<init>", "()V"⟩
def RX5 : String := "Suffixhall$Regular"
def TX5 : u_T := fun k => match k with
  | 0 => ("Suffixhall$Regular", "followers", "[I", true)
  | 1 => ("Suffixhall$Regular", "takers", "[I", true)
  | 2 => ("Suffixhall$Regular", "at", "I", false)
  | 3 => ("Suffixhall$Regular", "firsts", "I", false)
  | 4 => ("Suffixhall$Regular", "lasts", "I", false)
  | _ => ("Suffixhall$Regular", "canBeNothing", "Z", false)
def tyX5 : Nat → FieldType := fun k => match k with
  | 0 => .array .int
  | 1 => .array .int
  | 2 => .int
  | 3 => .int
  | 4 => .int
  | _ => .boolean
abbrev wsX50 : List Cond := u_ws RX5 TX5 6
theorem nmX5 : ∀ a, a < 6 → ∀ b, b < 6 → a ≠ b → (TX5 a).2.1 ≠ (TX5 b).2.1 := by decide +kernel
theorem tyX5_ok : ∀ k, k < 6 → parseFieldDescriptor (TX5 k).2.2.1 = some (tyX5 k) := by decide +kernel
abbrev cX5_init : ByteArray := prog_7_method_1_code
def yX5_init : MethodName := ⟨RX5, "<init>", "()V"⟩
def RX6 : String := "Suffixhall$Row"
def TX6 : u_T := fun k => match k with
  | 0 => ("Suffixhall$Row", "signs", "[C", true)
  | _ => ("Suffixhall$Row", "size", "I", false)
def tyX6 : Nat → FieldType := fun k => match k with
  | 0 => .array .char
  | _ => .int
abbrev wsX60 : List Cond := u_ws RX6 TX6 2
theorem nmX6 : ∀ a, a < 2 → ∀ b, b < 2 → a ≠ b → (TX6 a).2.1 ≠ (TX6 b).2.1 := by decide +kernel
theorem tyX6_ok : ∀ k, k < 2 → parseFieldDescriptor (TX6 k).2.2.1 = some (tyX6 k) := by decide +kernel
abbrev cX6_init : ByteArray := prog_8_method_1_code
def yX6_init : MethodName := ⟨RX6, "<init>", "()V"⟩
abbrev cX6_size : ByteArray := prog_8_method_2_code
def yX6_size : MethodName := ⟨RX6, "size", "()I"⟩
abbrev cX6_sign : ByteArray := prog_8_method_3_code
def yX6_sign : MethodName := ⟨RX6, "sign", "(I)C"⟩
abbrev cX6_append : ByteArray := prog_8_method_4_code
def yX6_append : MethodName := ⟨RX6, "append", "(C)V"⟩
abbrev cX6_empty : ByteArray := prog_8_method_5_code
def yX6_empty : MethodName := ⟨RX6, "empty", "()V"⟩
abbrev cX6_isPlain : ByteArray := prog_8_method_7_code
def yX6_isPlain : MethodName := ⟨RX6, "isPlain", "()Z"⟩
abbrev cX6_isSimple : ByteArray := prog_8_method_8_code
def yX6_isSimple : MethodName := ⟨RX6, "isSimple", "()Z"⟩
def RX7 : String := "Suffixhall$Segments"
def TX7 : u_T := fun k => match k with
  | 0 => ("Suffixhall$Segments", "living", "[I", true)
  | 1 => ("Suffixhall$Segments", "gone", "[I", true)
  | 2 => ("Suffixhall$Segments", "goneLetters", "[I", true)
  | 3 => ("Suffixhall$Segments", "homes", "[I", true)
  | _ => ("Suffixhall$Segments", "many", "I", false)
def tyX7 : Nat → FieldType := fun k => match k with
  | 0 => .array .int
  | 1 => .array .int
  | 2 => .array .int
  | 3 => .array .int
  | _ => .int
abbrev wsX70 : List Cond := u_ws RX7 TX7 5
theorem nmX7 : ∀ a, a < 5 → ∀ b, b < 5 → a ≠ b → (TX7 a).2.1 ≠ (TX7 b).2.1 := by decide +kernel
theorem tyX7_ok : ∀ k, k < 5 → parseFieldDescriptor (TX7 k).2.2.1 = some (tyX7 k) := by decide +kernel
abbrev cX7_init : ByteArray := prog_9_method_1_code
def yX7_init : MethodName := ⟨RX7, "<init>", "()V"⟩
abbrev cX7_isSegment : ByteArray := prog_9_method_3_code
def yX7_isSegment : MethodName := ⟨RX7, "isSegment", "(I)Z"⟩
abbrev cX7_homeOf : ByteArray := prog_9_method_4_code
def yX7_homeOf : MethodName := ⟨RX7, "homeOf", "(I)I"⟩
abbrev cX7_setHome : ByteArray := prog_9_method_5_code
def yX7_setHome : MethodName := ⟨RX7, "setHome", "(II)V"⟩
abbrev cX7_settle : ByteArray := prog_9_method_6_code
def yX7_settle : MethodName := ⟨RX7, "settle", "(I)V"⟩
abbrev cX7_fill : ByteArray := prog_9_method_7_code
def yX7_fill : MethodName := ⟨RX7, "fill", "(IIII)V"⟩
abbrev cX7_bury : ByteArray := prog_9_method_8_code
def yX7_bury : MethodName := ⟨RX7, "bury", "(II)V"⟩
abbrev cX7_livingAt : ByteArray := prog_9_method_11_code
def yX7_livingAt : MethodName := ⟨RX7, "livingAt", "(I)I"⟩
abbrev cX7_houses : ByteArray := prog_9_method_19_code
def yX7_houses : MethodName := ⟨RX7, "houses", "(LSuffixhall$Texts;)Z"⟩
def RX8 : String := "Suffixhall$Texts"
def TX8 : u_T := fun k => match k with
  | 0 => ("Suffixhall$Texts", "numbers", "[I", true)
  | 1 => ("Suffixhall$Texts", "sizes", "[I", true)
  | 2 => ("Suffixhall$Texts", "letters", "[C", true)
  | _ => ("Suffixhall$Texts", "many", "I", false)
def tyX8 : Nat → FieldType := fun k => match k with
  | 0 => .array .int
  | 1 => .array .int
  | 2 => .array .char
  | _ => .int
abbrev wsX80 : List Cond := u_ws RX8 TX8 4
theorem nmX8 : ∀ a, a < 4 → ∀ b, b < 4 → a ≠ b → (TX8 a).2.1 ≠ (TX8 b).2.1 := by decide +kernel
theorem tyX8_ok : ∀ k, k < 4 → parseFieldDescriptor (TX8 k).2.2.1 = some (tyX8 k) := by decide +kernel
abbrev cX8_init : ByteArray := prog_10_method_1_code
def yX8_init : MethodName := ⟨RX8, "<init>", "()V"⟩
abbrev cX8_many : ByteArray := prog_10_method_2_code
def yX8_many : MethodName := ⟨RX8, "many", "()I"⟩
abbrev cX8_isSlot : ByteArray := prog_10_method_3_code
def yX8_isSlot : MethodName := ⟨RX8, "isSlot", "(I)Z"⟩
abbrev cX8_slotOf : ByteArray := prog_10_method_4_code
def yX8_slotOf : MethodName := ⟨RX8, "slotOf", "(I)I"⟩
abbrev cX8_numberAt : ByteArray := prog_10_method_5_code
def yX8_numberAt : MethodName := ⟨RX8, "numberAt", "(I)I"⟩
abbrev cX8_sizeAt : ByteArray := prog_10_method_6_code
def yX8_sizeAt : MethodName := ⟨RX8, "sizeAt", "(I)I"⟩
abbrev cX8_letter : ByteArray := prog_10_method_7_code
def yX8_letter : MethodName := ⟨RX8, "letter", "(II)C"⟩
abbrev cX8_places : ByteArray := prog_10_method_8_code
def yX8_places : MethodName := ⟨RX8, "places", "()I"⟩
abbrev cX8_append : ByteArray := prog_10_method_9_code
def yX8_append : MethodName := ⟨RX8, "append", "(ILSuffixhall$Row;)V"⟩
abbrev cX8_widen : ByteArray := prog_10_method_10_code
def yX8_widen : MethodName := ⟨RX8, "widen", "(IILSuffixhall$Row;)V"⟩
abbrev cX8_become : ByteArray := prog_10_method_13_code
def yX8_become : MethodName := ⟨RX8, "become", "(LSuffixhall$Texts;)V"⟩
abbrev cX8_shared : ByteArray := prog_10_method_14_code
def yX8_shared : MethodName := ⟨RX8, "shared", "(IIII)I"⟩
abbrev cX8_compare : ByteArray := prog_10_method_15_code
def yX8_compare : MethodName := ⟨RX8, "compare", "(IIII)I"⟩
abbrev cX8_compareToRow : ByteArray := prog_10_method_16_code
def yX8_compareToRow : MethodName := ⟨RX8, "compareToRow", "(IILSuffixhall$Row;I)I"⟩
abbrev cX8_allPlaces : ByteArray := prog_10_method_17_code
def yX8_allPlaces : MethodName := ⟨RX8, "allPlaces", "(I)J"⟩
abbrev cX8_placesTaking : ByteArray := prog_10_method_18_code
def yX8_placesTaking : MethodName := ⟨RX8, "placesTaking", "(IC)J"⟩
abbrev cX8_placesOf : ByteArray := prog_10_method_19_code
def yX8_placesOf : MethodName := ⟨RX8, "placesOf", "(ILSuffixhall$Row;)J"⟩
abbrev cX8_timesOf : ByteArray := prog_10_method_20_code
def yX8_timesOf : MethodName := ⟨RX8, "timesOf", "(LSuffixhall$Row;)I"⟩
def RX9 : String := "Suffixhall$View"
def TX9 : u_T := fun k => match k with
  | 0 => ("Suffixhall$View", "texts", "LSuffixhall$Texts;", true)
  | 1 => ("Suffixhall$View", "codes", "[I", true)
  | 2 => ("Suffixhall$View", "ranks", "[I", true)
  | 3 => ("Suffixhall$View", "commons", "[I", true)
  | 4 => ("Suffixhall$View", "many", "I", false)
  | _ => ("Suffixhall$View", "isOrdered", "Z", false)
def tyX9 : Nat → FieldType := fun k => match k with
  | 0 => .object "Suffixhall$Texts"
  | 1 => .array .int
  | 2 => .array .int
  | 3 => .array .int
  | 4 => .int
  | _ => .boolean
abbrev wsX90 : List Cond := u_ws RX9 TX9 6
theorem nmX9 : ∀ a, a < 6 → ∀ b, b < 6 → a ≠ b → (TX9 a).2.1 ≠ (TX9 b).2.1 := by decide +kernel
theorem tyX9_ok : ∀ k, k < 6 → parseFieldDescriptor (TX9 k).2.2.1 = some (tyX9 k) := by decide +kernel
abbrev cX9_init : ByteArray := prog_11_method_1_code
def yX9_init : MethodName := ⟨RX9, "<init>", "()V"⟩
abbrev cX9_texts : ByteArray := prog_11_method_2_code
def yX9_texts : MethodName := ⟨RX9, "texts", "()LSuffixhall$Texts;"⟩
abbrev cX9_forgetOrder : ByteArray := prog_11_method_3_code
def yX9_forgetOrder : MethodName := ⟨RX9, "forgetOrder", "()V"⟩
abbrev cX9_become : ByteArray := prog_11_method_4_code
def yX9_become : MethodName := ⟨RX9, "become", "(LSuffixhall$View;)V"⟩
abbrev cX9_putInOrder : ByteArray := prog_11_method_5_code
def yX9_putInOrder : MethodName := ⟨RX9, "putInOrder", "()V"⟩
abbrev cX9_putIn : ByteArray := prog_11_method_6_code
def yX9_putIn : MethodName := ⟨RX9, "putIn", "(II)V"⟩
abbrev cX9_codeAt : ByteArray := prog_11_method_7_code
def yX9_codeAt : MethodName := ⟨RX9, "codeAt", "(I)I"⟩
abbrev cX9_slotAt : ByteArray := prog_11_method_8_code
def yX9_slotAt : MethodName := ⟨RX9, "slotAt", "(I)I"⟩
abbrev cX9_placeAt : ByteArray := prog_11_method_9_code
def yX9_placeAt : MethodName := ⟨RX9, "placeAt", "(I)I"⟩
abbrev cX9_commonAt : ByteArray := prog_11_method_10_code
def yX9_commonAt : MethodName := ⟨RX9, "commonAt", "(I)I"⟩
abbrev cX9_rankAt : ByteArray := prog_11_method_11_code
def yX9_rankAt : MethodName := ⟨RX9, "rankAt", "(II)I"⟩
abbrev cX9_turnedAt : ByteArray := prog_11_method_12_code
def yX9_turnedAt : MethodName := ⟨RX9, "turnedAt", "(I)C"⟩
abbrev cX9_runsOfTurned : ByteArray := prog_11_method_13_code
def yX9_runsOfTurned : MethodName := ⟨RX9, "runsOfTurned", "()I"⟩
abbrev cX9_turnedAhead : ByteArray := prog_11_method_14_code
def yX9_turnedAhead : MethodName := ⟨RX9, "turnedAhead", "(CI)I"⟩
abbrev cX9_boundOf : ByteArray := prog_11_method_15_code
def yX9_boundOf : MethodName := ⟨RX9, "boundOf", "(LSuffixhall$Row;IZ)I"⟩
abbrev cX9_isInOrder : ByteArray := prog_11_method_24_code
def yX9_isInOrder : MethodName := ⟨RX9, "isInOrder", "()Z"⟩
abbrev cX9_isRising : ByteArray := prog_11_method_25_code
def yX9_isRising : MethodName := ⟨RX9, "isRising", "(I)Z"⟩
def RX10 : String := "Suffixhall"
def TX10 : u_T := fun k => match k with
  | 0 => ("Suffixhall", "row", "LSuffixhall$Row;", true)
  | 1 => ("Suffixhall", "now", "LSuffixhall$Hall;", true)
  | 2 => ("Suffixhall", "kept", "LSuffixhall$Hall;", true)
  | 3 => ("Suffixhall", "regular", "LSuffixhall$Regular;", true)
  | 4 => ("Suffixhall", "edits", "LSuffixhall$Edits;", true)
  | 5 => ("Suffixhall", "parse", "LSuffixhall$Parse;", true)
  | 6 => ("Suffixhall", "pairs", "LSuffixhall$Pairs;", true)
  | _ => ("Suffixhall", "changes", "I", false)
def tyX10 : Nat → FieldType := fun k => match k with
  | 0 => .object "Suffixhall$Row"
  | 1 => .object "Suffixhall$Hall"
  | 2 => .object "Suffixhall$Hall"
  | 3 => .object "Suffixhall$Regular"
  | 4 => .object "Suffixhall$Edits"
  | 5 => .object "Suffixhall$Parse"
  | 6 => .object "Suffixhall$Pairs"
  | _ => .int
abbrev wsX100 : List Cond := u_ws RX10 TX10 8
theorem nmX10 : ∀ a, a < 8 → ∀ b, b < 8 → a ≠ b → (TX10 a).2.1 ≠ (TX10 b).2.1 := by decide +kernel
theorem tyX10_ok : ∀ k, k < 8 → parseFieldDescriptor (TX10 k).2.2.1 = some (tyX10 k) := by decide +kernel
abbrev cX10_init : ByteArray := prog_1_method_1_code
def yX10_init : MethodName := ⟨RX10, "<init>", "()V"⟩
abbrev cX10_type : ByteArray := prog_1_method_2_code
def yX10_type : MethodName := ⟨RX10, "type", "(C)I"⟩
abbrev cX10_wipe : ByteArray := prog_1_method_3_code
def yX10_wipe : MethodName := ⟨RX10, "wipe", "()I"⟩
abbrev cX10_add : ByteArray := prog_1_method_4_code
def yX10_add : MethodName := ⟨RX10, "add", "()I"⟩
abbrev cX10_insert : ByteArray := prog_1_method_5_code
def yX10_insert : MethodName := ⟨RX10, "insert", "(II)I"⟩
abbrev cX10_documents : ByteArray := prog_1_method_8_code
def yX10_documents : MethodName := ⟨RX10, "documents", "(I)I"⟩
abbrev cX10_lengthOf : ByteArray := prog_1_method_10_code
def yX10_lengthOf : MethodName := ⟨RX10, "lengthOf", "(II)I"⟩
abbrev cX10_snapshot : ByteArray := prog_1_method_12_code
def yX10_snapshot : MethodName := ⟨RX10, "snapshot", "()I"⟩
abbrev cX10_suffixAt : ByteArray := prog_1_method_16_code
def yX10_suffixAt : MethodName := ⟨RX10, "suffixAt", "(IIC)I"⟩
abbrev cX10_rankOf : ByteArray := prog_1_method_17_code
def yX10_rankOf : MethodName := ⟨RX10, "rankOf", "(III)I"⟩
abbrev cX10_turned : ByteArray := prog_1_method_18_code
def yX10_turned : MethodName := ⟨RX10, "turned", "(II)C"⟩
abbrev cX10_runs : ByteArray := prog_1_method_19_code
def yX10_runs : MethodName := ⟨RX10, "runs", "(I)I"⟩
abbrev cX10_ahead : ByteArray := prog_1_method_20_code
def yX10_ahead : MethodName := ⟨RX10, "ahead", "(ICI)I"⟩
abbrev cX10_interval : ByteArray := prog_1_method_21_code
def yX10_interval : MethodName := ⟨RX10, "interval", "(IIZ)I"⟩
abbrev cX10_count : ByteArray := prog_1_method_22_code
def yX10_count : MethodName := ⟨RX10, "count", "(I)I"⟩
abbrev cX10_found : ByteArray := prog_1_method_23_code
def yX10_found : MethodName := ⟨RX10, "found", "(IIZ)I"⟩
abbrev cX10_runShare : ByteArray := prog_1_method_49_code
def yX10_runShare : MethodName := ⟨RX10, "runShare", "(I)F"⟩
abbrev cX10_isSound : ByteArray := prog_1_method_51_code
def yX10_isSound : MethodName := ⟨RX10, "isSound", "()Z"⟩
abbrev cX10_isLetter : ByteArray := prog_1_method_52_code
def yX10_isLetter : MethodName := ⟨RX10, "isLetter", "(C)Z"⟩
abbrev cX10_isSign : ByteArray := prog_1_method_53_code
def yX10_isSign : MethodName := ⟨RX10, "isSign", "(C)Z"⟩
abbrev cX10_neededView : ByteArray := prog_1_method_54_code
def yX10_neededView : MethodName := ⟨RX10, "neededView", "(I)LSuffixhall$View;"⟩
abbrev cX10_orderedView : ByteArray := prog_1_method_55_code
def yX10_orderedView : MethodName := ⟨RX10, "orderedView", "(I)LSuffixhall$View;"⟩
abbrev cX10_neededSlot : ByteArray := prog_1_method_56_code
def yX10_neededSlot : MethodName := ⟨RX10, "neededSlot", "(LSuffixhall$Texts;I)I"⟩
abbrev cX10_needPlace : ByteArray := prog_1_method_57_code
def yX10_needPlace : MethodName := ⟨RX10, "needPlace", "(LSuffixhall$Texts;II)V"⟩
abbrev cX10_needRank : ByteArray := prog_1_method_58_code
def yX10_needRank : MethodName := ⟨RX10, "needRank", "(LSuffixhall$View;I)V"⟩
abbrev cX10_needPlainRow : ByteArray := prog_1_method_59_code
def yX10_needPlainRow : MethodName := ⟨RX10, "needPlainRow", "()V"⟩
abbrev cX10_needSimpleRow : ByteArray := prog_1_method_60_code
def yX10_needSimpleRow : MethodName := ⟨RX10, "needSimpleRow", "()V"⟩
abbrev cX10_placeOfBit : ByteArray := prog_1_method_61_code
def yX10_placeOfBit : MethodName := ⟨RX10, "placeOfBit", "(JI)I"⟩
def RX11 : String := "SuffixhallModel$Part"
def TX11 : u_T := fun k => match k with
  | _ => ("", "", "", false)
def tyX11 : Nat → FieldType := fun k => match k with
  | _ => .int
abbrev wsX110 : List Cond := u_ws RX11 TX11 0
theorem nmX11 : ∀ a, a < 0 → ∀ b, b < 0 → a ≠ b → (TX11 a).2.1 ≠ (TX11 b).2.1 := by decide +kernel
theorem tyX11_ok : ∀ k, k < 0 → parseFieldDescriptor (TX11 k).2.2.1 = some (tyX11 k) := by decide +kernel
def RX12 : String := "SuffixhallModel$State"
def TX12 : u_T := fun k => match k with
  | _ => ("", "", "", false)
def tyX12 : Nat → FieldType := fun k => match k with
  | _ => .int
abbrev wsX120 : List Cond := u_ws RX12 TX12 0
theorem nmX12 : ∀ a, a < 0 → ∀ b, b < 0 → a ≠ b → (TX12 a).2.1 ≠ (TX12 b).2.1 := by decide +kernel
theorem tyX12_ok : ∀ k, k < 0 → parseFieldDescriptor (TX12 k).2.2.1 = some (tyX12 k) := by decide +kernel
def RX13 : String := "SuffixhallModel$Text"
def TX13 : u_T := fun k => match k with
  | _ => ("", "", "", false)
def tyX13 : Nat → FieldType := fun k => match k with
  | _ => .int
abbrev wsX130 : List Cond := u_ws RX13 TX13 0
theorem nmX13 : ∀ a, a < 0 → ∀ b, b < 0 → a ≠ b → (TX13 a).2.1 ≠ (TX13 b).2.1 := by decide +kernel
theorem tyX13_ok : ∀ k, k < 0 → parseFieldDescriptor (TX13 k).2.2.1 = some (tyX13 k) := by decide +kernel
def RX14 : String := "SuffixhallModel"
def TX14 : u_T := fun k => match k with
  | _ => ("", "", "", false)
def tyX14 : Nat → FieldType := fun k => match k with
  | _ => .int
abbrev wsX140 : List Cond := u_ws RX14 TX14 0
theorem nmX14 : ∀ a, a < 0 → ∀ b, b < 0 → a ≠ b → (TX14 a).2.1 ≠ (TX14 b).2.1 := by decide +kernel
theorem tyX14_ok : ∀ k, k < 0 → parseFieldDescriptor (TX14 k).2.2.1 = some (tyX14 k) := by decide +kernel
def RJ13 : String := "java/lang/Long"
def TJ13 : u_T := fun k => match k with
  | _ => ("", "", "", false)
def tyJ13 : Nat → FieldType := fun k => match k with
  | _ => .int
abbrev wsJ130 : List Cond := u_ws RJ13 TJ13 0
theorem nmJ13 : ∀ a, a < 0 → ∀ b, b < 0 → a ≠ b → (TJ13 a).2.1 ≠ (TJ13 b).2.1 := by decide +kernel
theorem tyJ13_ok : ∀ k, k < 0 → parseFieldDescriptor (TJ13 k).2.2.1 = some (tyJ13 k) := by decide +kernel
abbrev cJ13_bitCount_95d88 : ByteArray := prog_22_method_50_code
def yJ13_bitCount_95d88 : MethodName := ⟨RJ13, "bitCount", "(J)I"⟩
def RJ0 : String := "java/lang/String"
def TJ0 : u_T := fun k => match k with
  | _ => ("", "", "", false)
def tyJ0 : Nat → FieldType := fun k => match k with
  | _ => .int
abbrev wsJ00 : List Cond := u_ws RJ0 TJ0 0
theorem nmJ0 : ∀ a, a < 0 → ∀ b, b < 0 → a ≠ b → (TJ0 a).2.1 ≠ (TJ0 b).2.1 := by decide +kernel
theorem tyJ0_ok : ∀ k, k < 0 → parseFieldDescriptor (TJ0 k).2.2.1 = some (tyJ0 k) := by decide +kernel
def RJ10 : String := "java/lang/System"
def TJ10 : u_T := fun k => match k with
  | _ => ("", "", "", false)
def tyJ10 : Nat → FieldType := fun k => match k with
  | _ => .int
abbrev wsJ100 : List Cond := u_ws RJ10 TJ10 0
theorem nmJ10 : ∀ a, a < 0 → ∀ b, b < 0 → a ≠ b → (TJ10 a).2.1 ≠ (TJ10 b).2.1 := by decide +kernel
theorem tyJ10_ok : ∀ k, k < 0 → parseFieldDescriptor (TJ10 k).2.2.1 = some (tyJ10 k) := by decide +kernel
def RJ7 : String := "java/util/Arrays"
def TJ7 : u_T := fun k => match k with
  | _ => ("", "", "", false)
def tyJ7 : Nat → FieldType := fun k => match k with
  | _ => .int
abbrev wsJ70 : List Cond := u_ws RJ7 TJ7 0
theorem nmJ7 : ∀ a, a < 0 → ∀ b, b < 0 → a ≠ b → (TJ7 a).2.1 ≠ (TJ7 b).2.1 := by decide +kernel
theorem tyJ7_ok : ∀ k, k < 0 → parseFieldDescriptor (TJ7 k).2.2.1 = some (tyJ7 k) := by decide +kernel
abbrev cJ7_fill_53178 : ByteArray := prog_28_method_103_code
def yJ7_fill_53178 : MethodName := ⟨RJ7, "fill", "([II)V"⟩
def RL : String := "SuffixhallLaw"
abbrev cL_cell : ByteArray := method_2_code
def yL_cell : MethodName := ⟨RL, "cell", "([II)I"⟩
abbrev cL_type : ByteArray := method_3_code
def yL_type : MethodName := ⟨RL, "type", "(LSuffixhall;C)I"⟩
abbrev cL_add : ByteArray := method_4_code
def yL_add : MethodName := ⟨RL, "add", "(LSuffixhall;)I"⟩
abbrev cL_insert : ByteArray := method_5_code
def yL_insert : MethodName := ⟨RL, "insert", "(LSuffixhall;II)I"⟩
abbrev cL_documents : ByteArray := method_6_code
def yL_documents : MethodName := ⟨RL, "documents", "(LSuffixhall;I)I"⟩
abbrev cL_lengthOf : ByteArray := method_7_code
def yL_lengthOf : MethodName := ⟨RL, "lengthOf", "(LSuffixhall;II)I"⟩
abbrev cL_snapshot : ByteArray := method_8_code
def yL_snapshot : MethodName := ⟨RL, "snapshot", "(LSuffixhall;)I"⟩
abbrev cL_suffixAt : ByteArray := method_9_code
def yL_suffixAt : MethodName := ⟨RL, "suffixAt", "(LSuffixhall;IIC)I"⟩
abbrev cL_rankOf : ByteArray := method_10_code
def yL_rankOf : MethodName := ⟨RL, "rankOf", "(LSuffixhall;III)I"⟩
abbrev cL_turned : ByteArray := method_11_code
def yL_turned : MethodName := ⟨RL, "turned", "(LSuffixhall;II)I"⟩
abbrev cL_runs : ByteArray := method_12_code
def yL_runs : MethodName := ⟨RL, "runs", "(LSuffixhall;I)I"⟩
abbrev cL_ahead : ByteArray := method_13_code
def yL_ahead : MethodName := ⟨RL, "ahead", "(LSuffixhall;ICI)I"⟩
abbrev cL_count : ByteArray := method_14_code
def yL_count : MethodName := ⟨RL, "count", "(LSuffixhall;I)I"⟩
abbrev cL_interval : ByteArray := method_15_code
def yL_interval : MethodName := ⟨RL, "interval", "(LSuffixhall;IIZ)I"⟩
abbrev cL_found : ByteArray := method_16_code
def yL_found : MethodName := ⟨RL, "found", "(LSuffixhall;IIZ)I"⟩
abbrev cL_in : ByteArray := method_17_code
def yL_in : MethodName := ⟨RL, "in", "([III)I"⟩
abbrev cL_typed : ByteArray := method_18_code
def yL_typed : MethodName := ⟨RL, "typed", "(LSuffixhall;[III)[C"⟩
abbrev cL_isAt : ByteArray := method_19_code
def yL_isAt : MethodName := ⟨RL, "isAt", "([CI[C)Z"⟩
abbrev cL_law : ByteArray := code
def yL_law : MethodName := ⟨RL, "law", "([I)Z"⟩
theorem dX0_init_0 : decode cX0_init 0 = .ok (.aload_n 0, 1) := by decide +kernel
theorem dX0_init_1 : decode cX0_init 1 = .ok (.invokespecial 3, 3) := by decide +kernel
theorem dX0_init_4 : decode cX0_init 4 = .ok (.aload_n 0, 1) := by decide +kernel
theorem dX0_init_5 : decode cX0_init 5 = .ok (.bipush 8, 2) := by decide +kernel
theorem dX0_init_7 : decode cX0_init 7 = .ok (.anewarray 9, 3) := by decide +kernel
theorem dX0_init_10 : decode cX0_init 10 = .ok (.putfield 11, 3) := by decide +kernel
theorem dX0_init_13 : decode cX0_init 13 = .ok (.iconst 0, 1) := by decide +kernel
theorem dX0_init_14 : decode cX0_init 14 = .ok (.istore_n 1, 1) := by decide +kernel
theorem dX0_init_15 : decode cX0_init 15 = .ok (.iload_n 1, 1) := by decide +kernel
theorem dX0_init_16 : decode cX0_init 16 = .ok (.aload_n 0, 1) := by decide +kernel
theorem dX0_init_17 : decode cX0_init 17 = .ok (.getfield 11, 3) := by decide +kernel
theorem dX0_init_20 : decode cX0_init 20 = .ok (.arraylength, 1) := by decide +kernel
theorem dX0_init_21 : decode cX0_init 21 = .ok (.if_icmp .ge 22, 3) := by decide +kernel
theorem dX0_init_24 : decode cX0_init 24 = .ok (.aload_n 0, 1) := by decide +kernel
theorem dX0_init_25 : decode cX0_init 25 = .ok (.getfield 11, 3) := by decide +kernel
theorem dX0_init_28 : decode cX0_init 28 = .ok (.iload_n 1, 1) := by decide +kernel
theorem dX0_init_29 : decode cX0_init 29 = .ok (.new 9, 3) := by decide +kernel
theorem dX0_init_32 : decode cX0_init 32 = .ok (.dup, 1) := by decide +kernel
theorem dX0_init_33 : decode cX0_init 33 = .ok (.invokespecial 17, 3) := by decide +kernel
theorem dX0_init_36 : decode cX0_init 36 = .ok (.aastore, 1) := by decide +kernel
theorem dX0_init_37 : decode cX0_init 37 = .ok (.iinc 1 1, 3) := by decide +kernel
theorem dX0_init_40 : decode cX0_init 40 = .ok (.goto (-25), 3) := by decide +kernel
theorem dX0_init_43 : decode cX0_init 43 = .ok (.return_, 1) := by decide +kernel
theorem dX1_init_0 : decode cX1_init 0 = .ok (.aload_n 0, 1) := by decide +kernel
theorem dX1_init_1 : decode cX1_init 1 = .ok (.invokespecial 3, 3) := by decide +kernel
theorem dX1_init_4 : decode cX1_init 4 = .ok (.aload_n 0, 1) := by decide +kernel
theorem dX1_init_5 : decode cX1_init 5 = .ok (.bipush 40, 2) := by decide +kernel
theorem dX1_init_7 : decode cX1_init 7 = .ok (.newarray .char, 2) := by decide +kernel
theorem dX1_init_9 : decode cX1_init 9 = .ok (.putfield 9, 3) := by decide +kernel
theorem dX1_init_12 : decode cX1_init 12 = .ok (.aload_n 0, 1) := by decide +kernel
theorem dX1_init_13 : decode cX1_init 13 = .ok (.bipush 40, 2) := by decide +kernel
theorem dX1_init_15 : decode cX1_init 15 = .ok (.newarray .char, 2) := by decide +kernel
theorem dX1_init_17 : decode cX1_init 17 = .ok (.putfield 15, 3) := by decide +kernel
theorem dX1_init_20 : decode cX1_init 20 = .ok (.aload_n 0, 1) := by decide +kernel
theorem dX1_init_21 : decode cX1_init 21 = .ok (.bipush 41, 2) := by decide +kernel
theorem dX1_init_23 : decode cX1_init 23 = .ok (.bipush 41, 2) := by decide +kernel
theorem dX1_init_25 : decode cX1_init 25 = .ok (.multianewarray 18 2, 4) := by decide +kernel
theorem dX1_init_29 : decode cX1_init 29 = .ok (.putfield 20, 3) := by decide +kernel
theorem dX1_init_32 : decode cX1_init 32 = .ok (.return_, 1) := by decide +kernel
theorem dX2_init_0 : decode cX2_init 0 = .ok (.aload_n 0, 1) := by decide +kernel
theorem dX2_init_1 : decode cX2_init 1 = .ok (.invokespecial 3, 3) := by decide +kernel
theorem dX2_init_4 : decode cX2_init 4 = .ok (.aload_n 0, 1) := by decide +kernel
theorem dX2_init_5 : decode cX2_init 5 = .ok (.new 9, 3) := by decide +kernel
theorem dX2_init_8 : decode cX2_init 8 = .ok (.dup, 1) := by decide +kernel
theorem dX2_init_9 : decode cX2_init 9 = .ok (.invokespecial 11, 3) := by decide +kernel
theorem dX2_init_12 : decode cX2_init 12 = .ok (.putfield 12, 3) := by decide +kernel
theorem dX2_init_15 : decode cX2_init 15 = .ok (.aload_n 0, 1) := by decide +kernel
theorem dX2_init_16 : decode cX2_init 16 = .ok (.bipush 6, 2) := by decide +kernel
theorem dX2_init_18 : decode cX2_init 18 = .ok (.anewarray 9, 3) := by decide +kernel
theorem dX2_init_21 : decode cX2_init 21 = .ok (.putfield 18, 3) := by decide +kernel
theorem dX2_init_24 : decode cX2_init 24 = .ok (.aload_n 0, 1) := by decide +kernel
theorem dX2_init_25 : decode cX2_init 25 = .ok (.bipush 6, 2) := by decide +kernel
theorem dX2_init_27 : decode cX2_init 27 = .ok (.newarray .int, 2) := by decide +kernel
theorem dX2_init_29 : decode cX2_init 29 = .ok (.putfield 22, 3) := by decide +kernel
theorem dX2_init_32 : decode cX2_init 32 = .ok (.aload_n 0, 1) := by decide +kernel
theorem dX2_init_33 : decode cX2_init 33 = .ok (.new 26, 3) := by decide +kernel
theorem dX2_init_36 : decode cX2_init 36 = .ok (.dup, 1) := by decide +kernel
theorem dX2_init_37 : decode cX2_init 37 = .ok (.invokespecial 28, 3) := by decide +kernel
theorem dX2_init_40 : decode cX2_init 40 = .ok (.putfield 29, 3) := by decide +kernel
theorem dX2_init_43 : decode cX2_init 43 = .ok (.aload_n 0, 1) := by decide +kernel
theorem dX2_init_44 : decode cX2_init 44 = .ok (.new 33, 3) := by decide +kernel
theorem dX2_init_47 : decode cX2_init 47 = .ok (.dup, 1) := by decide +kernel
theorem dX2_init_48 : decode cX2_init 48 = .ok (.invokespecial 35, 3) := by decide +kernel
theorem dX2_init_51 : decode cX2_init 51 = .ok (.putfield 36, 3) := by decide +kernel
theorem dX2_init_54 : decode cX2_init 54 = .ok (.iconst 0, 1) := by decide +kernel
theorem dX2_init_55 : decode cX2_init 55 = .ok (.istore_n 1, 1) := by decide +kernel
theorem dX2_init_56 : decode cX2_init 56 = .ok (.iload_n 1, 1) := by decide +kernel
theorem dX2_init_57 : decode cX2_init 57 = .ok (.aload_n 0, 1) := by decide +kernel
theorem dX2_init_58 : decode cX2_init 58 = .ok (.getfield 18, 3) := by decide +kernel
theorem dX2_init_61 : decode cX2_init 61 = .ok (.arraylength, 1) := by decide +kernel
theorem dX2_init_62 : decode cX2_init 62 = .ok (.if_icmp .ge 22, 3) := by decide +kernel
theorem dX2_init_65 : decode cX2_init 65 = .ok (.aload_n 0, 1) := by decide +kernel
theorem dX2_init_66 : decode cX2_init 66 = .ok (.getfield 18, 3) := by decide +kernel
theorem dX2_init_69 : decode cX2_init 69 = .ok (.iload_n 1, 1) := by decide +kernel
theorem dX2_init_70 : decode cX2_init 70 = .ok (.new 9, 3) := by decide +kernel
theorem dX2_init_73 : decode cX2_init 73 = .ok (.dup, 1) := by decide +kernel
theorem dX2_init_74 : decode cX2_init 74 = .ok (.invokespecial 11, 3) := by decide +kernel
theorem dX2_init_77 : decode cX2_init 77 = .ok (.aastore, 1) := by decide +kernel
theorem dX2_init_78 : decode cX2_init 78 = .ok (.iinc 1 1, 3) := by decide +kernel
theorem dX2_init_81 : decode cX2_init 81 = .ok (.goto (-25), 3) := by decide +kernel
theorem dX2_init_84 : decode cX2_init 84 = .ok (.aload_n 0, 1) := by decide +kernel
theorem dX2_init_85 : decode cX2_init 85 = .ok (.getfield 22, 3) := by decide +kernel
theorem dX2_init_88 : decode cX2_init 88 = .ok (.iconst (-1), 1) := by decide +kernel
theorem dX2_init_89 : decode cX2_init 89 = .ok (.invokestatic 40, 3) := by decide +kernel
theorem dX2_init_92 : decode cX2_init 92 = .ok (.return_, 1) := by decide +kernel
theorem dX2_present_0 : decode cX2_present 0 = .ok (.aload_n 0, 1) := by decide +kernel
theorem dX2_present_1 : decode cX2_present 1 = .ok (.getfield 12, 3) := by decide +kernel
theorem dX2_present_4 : decode cX2_present 4 = .ok (.areturn, 1) := by decide +kernel
theorem dX2_viewOf_0 : decode cX2_viewOf 0 = .ok (.iload_n 1, 1) := by decide +kernel
theorem dX2_viewOf_1 : decode cX2_viewOf 1 = .ok (.iconst (-1), 1) := by decide +kernel
theorem dX2_viewOf_2 : decode cX2_viewOf 2 = .ok (.if_icmp .ne 10, 3) := by decide +kernel
theorem dX2_viewOf_5 : decode cX2_viewOf 5 = .ok (.aload_n 0, 1) := by decide +kernel
theorem dX2_viewOf_6 : decode cX2_viewOf 6 = .ok (.getfield 12, 3) := by decide +kernel
theorem dX2_viewOf_9 : decode cX2_viewOf 9 = .ok (.goto 12, 3) := by decide +kernel
theorem dX2_viewOf_12 : decode cX2_viewOf 12 = .ok (.aload_n 0, 1) := by decide +kernel
theorem dX2_viewOf_13 : decode cX2_viewOf 13 = .ok (.aload_n 0, 1) := by decide +kernel
theorem dX2_viewOf_14 : decode cX2_viewOf 14 = .ok (.iload_n 1, 1) := by decide +kernel
theorem dX2_viewOf_15 : decode cX2_viewOf 15 = .ok (.invokevirtual 46, 3) := by decide +kernel
theorem dX2_viewOf_18 : decode cX2_viewOf 18 = .ok (.invokevirtual 50, 3) := by decide +kernel
theorem dX2_viewOf_21 : decode cX2_viewOf 21 = .ok (.areturn, 1) := by decide +kernel
theorem dX2_shelf_0 : decode cX2_shelf 0 = .ok (.iload_n 1, 1) := by decide +kernel
theorem dX2_shelf_1 : decode cX2_shelf 1 = .ok (.ifCond .lt 21, 3) := by decide +kernel
theorem dX2_shelf_4 : decode cX2_shelf 4 = .ok (.iload_n 1, 1) := by decide +kernel
theorem dX2_shelf_5 : decode cX2_shelf 5 = .ok (.aload_n 0, 1) := by decide +kernel
theorem dX2_shelf_6 : decode cX2_shelf 6 = .ok (.getfield 18, 3) := by decide +kernel
theorem dX2_shelf_9 : decode cX2_shelf 9 = .ok (.arraylength, 1) := by decide +kernel
theorem dX2_shelf_10 : decode cX2_shelf 10 = .ok (.if_icmp .ge 12, 3) := by decide +kernel
theorem dX2_shelf_13 : decode cX2_shelf 13 = .ok (.aload_n 0, 1) := by decide +kernel
theorem dX2_shelf_14 : decode cX2_shelf 14 = .ok (.getfield 18, 3) := by decide +kernel
theorem dX2_shelf_17 : decode cX2_shelf 17 = .ok (.iload_n 1, 1) := by decide +kernel
theorem dX2_shelf_18 : decode cX2_shelf 18 = .ok (.aaload, 1) := by decide +kernel
theorem dX2_shelf_19 : decode cX2_shelf 19 = .ok (.goto 4, 3) := by decide +kernel
theorem dX2_shelf_22 : decode cX2_shelf 22 = .ok (.aconst_null, 1) := by decide +kernel
theorem dX2_shelf_23 : decode cX2_shelf 23 = .ok (.areturn, 1) := by decide +kernel
theorem dX2_hasRoom_0 : decode cX2_hasRoom 0 = .ok (.aload_n 0, 1) := by decide +kernel
theorem dX2_hasRoom_1 : decode cX2_hasRoom 1 = .ok (.getfield 12, 3) := by decide +kernel
theorem dX2_hasRoom_4 : decode cX2_hasRoom 4 = .ok (.invokevirtual 54, 3) := by decide +kernel
theorem dX2_hasRoom_7 : decode cX2_hasRoom 7 = .ok (.invokevirtual 58, 3) := by decide +kernel
theorem dX2_hasRoom_10 : decode cX2_hasRoom 10 = .ok (.bipush 12, 2) := by decide +kernel
theorem dX2_hasRoom_12 : decode cX2_hasRoom 12 = .ok (.if_icmp .ge 16, 3) := by decide +kernel
theorem dX2_hasRoom_15 : decode cX2_hasRoom 15 = .ok (.aload_n 0, 1) := by decide +kernel
theorem dX2_hasRoom_16 : decode cX2_hasRoom 16 = .ok (.getfield 64, 3) := by decide +kernel
theorem dX2_hasRoom_19 : decode cX2_hasRoom 19 = .ok (.bipush 40, 2) := by decide +kernel
theorem dX2_hasRoom_21 : decode cX2_hasRoom 21 = .ok (.if_icmp .ge 7, 3) := by decide +kernel
theorem dX2_hasRoom_24 : decode cX2_hasRoom 24 = .ok (.iconst 1, 1) := by decide +kernel
theorem dX2_hasRoom_25 : decode cX2_hasRoom 25 = .ok (.goto 4, 3) := by decide +kernel
theorem dX2_hasRoom_28 : decode cX2_hasRoom 28 = .ok (.iconst 0, 1) := by decide +kernel
theorem dX2_hasRoom_29 : decode cX2_hasRoom 29 = .ok (.ireturn, 1) := by decide +kernel
theorem dX2_takeIn_0 : decode cX2_takeIn 0 = .ok (.aload_n 0, 1) := by decide +kernel
theorem dX2_takeIn_1 : decode cX2_takeIn 1 = .ok (.getfield 64, 3) := by decide +kernel
theorem dX2_takeIn_4 : decode cX2_takeIn 4 = .ok (.istore_n 2, 1) := by decide +kernel
theorem dX2_takeIn_5 : decode cX2_takeIn 5 = .ok (.aload_n 0, 1) := by decide +kernel
theorem dX2_takeIn_6 : decode cX2_takeIn 6 = .ok (.getfield 12, 3) := by decide +kernel
theorem dX2_takeIn_9 : decode cX2_takeIn 9 = .ok (.invokevirtual 54, 3) := by decide +kernel
theorem dX2_takeIn_12 : decode cX2_takeIn 12 = .ok (.iload_n 2, 1) := by decide +kernel
theorem dX2_takeIn_13 : decode cX2_takeIn 13 = .ok (.aload_n 1, 1) := by decide +kernel
theorem dX2_takeIn_14 : decode cX2_takeIn 14 = .ok (.invokevirtual 68, 3) := by decide +kernel
theorem dX2_takeIn_17 : decode cX2_takeIn 17 = .ok (.aload_n 0, 1) := by decide +kernel
theorem dX2_takeIn_18 : decode cX2_takeIn 18 = .ok (.getfield 12, 3) := by decide +kernel
theorem dX2_takeIn_21 : decode cX2_takeIn 21 = .ok (.invokevirtual 72, 3) := by decide +kernel
theorem dX2_takeIn_24 : decode cX2_takeIn 24 = .ok (.aload_n 0, 1) := by decide +kernel
theorem dX2_takeIn_25 : decode cX2_takeIn 25 = .ok (.getfield 29, 3) := by decide +kernel
theorem dX2_takeIn_28 : decode cX2_takeIn 28 = .ok (.iload_n 2, 1) := by decide +kernel
theorem dX2_takeIn_29 : decode cX2_takeIn 29 = .ok (.invokevirtual 75, 3) := by decide +kernel
theorem dX2_takeIn_32 : decode cX2_takeIn 32 = .ok (.aload_n 0, 1) := by decide +kernel
theorem dX2_takeIn_33 : decode cX2_takeIn 33 = .ok (.dup, 1) := by decide +kernel
theorem dX2_takeIn_34 : decode cX2_takeIn 34 = .ok (.getfield 64, 3) := by decide +kernel
theorem dX2_takeIn_37 : decode cX2_takeIn 37 = .ok (.iconst 1, 1) := by decide +kernel
theorem dX2_takeIn_38 : decode cX2_takeIn 38 = .ok (.iadd, 1) := by decide +kernel
theorem dX2_takeIn_39 : decode cX2_takeIn 39 = .ok (.putfield 64, 3) := by decide +kernel
theorem dX2_takeIn_42 : decode cX2_takeIn 42 = .ok (.iload_n 2, 1) := by decide +kernel
theorem dX2_takeIn_43 : decode cX2_takeIn 43 = .ok (.ireturn, 1) := by decide +kernel
theorem dX2_widen_0 : decode cX2_widen 0 = .ok (.aload_n 0, 1) := by decide +kernel
theorem dX2_widen_1 : decode cX2_widen 1 = .ok (.iload_n 1, 1) := by decide +kernel
theorem dX2_widen_2 : decode cX2_widen 2 = .ok (.invokevirtual 79, 3) := by decide +kernel
theorem dX2_widen_5 : decode cX2_widen 5 = .ok (.aload_n 0, 1) := by decide +kernel
theorem dX2_widen_6 : decode cX2_widen 6 = .ok (.getfield 12, 3) := by decide +kernel
theorem dX2_widen_9 : decode cX2_widen 9 = .ok (.invokevirtual 54, 3) := by decide +kernel
theorem dX2_widen_12 : decode cX2_widen 12 = .ok (.iload_n 1, 1) := by decide +kernel
theorem dX2_widen_13 : decode cX2_widen 13 = .ok (.iload_n 2, 1) := by decide +kernel
theorem dX2_widen_14 : decode cX2_widen 14 = .ok (.aload_n 3, 1) := by decide +kernel
theorem dX2_widen_15 : decode cX2_widen 15 = .ok (.invokevirtual 82, 3) := by decide +kernel
theorem dX2_widen_18 : decode cX2_widen 18 = .ok (.aload_n 0, 1) := by decide +kernel
theorem dX2_widen_19 : decode cX2_widen 19 = .ok (.getfield 12, 3) := by decide +kernel
theorem dX2_widen_22 : decode cX2_widen 22 = .ok (.invokevirtual 72, 3) := by decide +kernel
theorem dX2_widen_25 : decode cX2_widen 25 = .ok (.aload_n 0, 1) := by decide +kernel
theorem dX2_widen_26 : decode cX2_widen 26 = .ok (.getfield 29, 3) := by decide +kernel
theorem dX2_widen_29 : decode cX2_widen 29 = .ok (.aload_n 0, 1) := by decide +kernel
theorem dX2_widen_30 : decode cX2_widen 30 = .ok (.getfield 12, 3) := by decide +kernel
theorem dX2_widen_33 : decode cX2_widen 33 = .ok (.invokevirtual 54, 3) := by decide +kernel
theorem dX2_widen_36 : decode cX2_widen 36 = .ok (.iload_n 1, 1) := by decide +kernel
theorem dX2_widen_37 : decode cX2_widen 37 = .ok (.invokevirtual 86, 3) := by decide +kernel
theorem dX2_widen_40 : decode cX2_widen 40 = .ok (.invokevirtual 75, 3) := by decide +kernel
theorem dX2_widen_43 : decode cX2_widen 43 = .ok (.return_, 1) := by decide +kernel
theorem dX2_bury_0 : decode cX2_bury 0 = .ok (.aload_n 0, 1) := by decide +kernel
theorem dX2_bury_1 : decode cX2_bury 1 = .ok (.getfield 29, 3) := by decide +kernel
theorem dX2_bury_4 : decode cX2_bury 4 = .ok (.aload_n 0, 1) := by decide +kernel
theorem dX2_bury_5 : decode cX2_bury 5 = .ok (.getfield 12, 3) := by decide +kernel
theorem dX2_bury_8 : decode cX2_bury 8 = .ok (.invokevirtual 54, 3) := by decide +kernel
theorem dX2_bury_11 : decode cX2_bury 11 = .ok (.iload_n 1, 1) := by decide +kernel
theorem dX2_bury_12 : decode cX2_bury 12 = .ok (.invokevirtual 86, 3) := by decide +kernel
theorem dX2_bury_15 : decode cX2_bury 15 = .ok (.aload_n 0, 1) := by decide +kernel
theorem dX2_bury_16 : decode cX2_bury 16 = .ok (.getfield 12, 3) := by decide +kernel
theorem dX2_bury_19 : decode cX2_bury 19 = .ok (.invokevirtual 54, 3) := by decide +kernel
theorem dX2_bury_22 : decode cX2_bury 22 = .ok (.iload_n 1, 1) := by decide +kernel
theorem dX2_bury_23 : decode cX2_bury 23 = .ok (.invokevirtual 96, 3) := by decide +kernel
theorem dX2_bury_26 : decode cX2_bury 26 = .ok (.invokevirtual 99, 3) := by decide +kernel
theorem dX2_bury_29 : decode cX2_bury 29 = .ok (.return_, 1) := by decide +kernel
theorem dX2_canTake_0 : decode cX2_canTake 0 = .ok (.aload_n 0, 1) := by decide +kernel
theorem dX2_canTake_1 : decode cX2_canTake 1 = .ok (.invokevirtual 102, 3) := by decide +kernel
theorem dX2_canTake_4 : decode cX2_canTake 4 = .ok (.bipush 6, 2) := by decide +kernel
theorem dX2_canTake_6 : decode cX2_canTake 6 = .ok (.if_icmp .ge 16, 3) := by decide +kernel
theorem dX2_canTake_9 : decode cX2_canTake 9 = .ok (.aload_n 0, 1) := by decide +kernel
theorem dX2_canTake_10 : decode cX2_canTake 10 = .ok (.getfield 105, 3) := by decide +kernel
theorem dX2_canTake_13 : decode cX2_canTake 13 = .ok (.bipush 20, 2) := by decide +kernel
theorem dX2_canTake_15 : decode cX2_canTake 15 = .ok (.if_icmp .ge 7, 3) := by decide +kernel
theorem dX2_canTake_18 : decode cX2_canTake 18 = .ok (.iconst 1, 1) := by decide +kernel
theorem dX2_canTake_19 : decode cX2_canTake 19 = .ok (.goto 4, 3) := by decide +kernel
theorem dX2_canTake_22 : decode cX2_canTake 22 = .ok (.iconst 0, 1) := by decide +kernel
theorem dX2_canTake_23 : decode cX2_canTake 23 = .ok (.ireturn, 1) := by decide +kernel
theorem dX2_snapshotsKept_0 : decode cX2_snapshotsKept 0 = .ok (.iconst 0, 1) := by decide +kernel
theorem dX2_snapshotsKept_1 : decode cX2_snapshotsKept 1 = .ok (.istore_n 1, 1) := by decide +kernel
theorem dX2_snapshotsKept_2 : decode cX2_snapshotsKept 2 = .ok (.iconst 0, 1) := by decide +kernel
theorem dX2_snapshotsKept_3 : decode cX2_snapshotsKept 3 = .ok (.istore_n 2, 1) := by decide +kernel
theorem dX2_snapshotsKept_4 : decode cX2_snapshotsKept 4 = .ok (.iload_n 2, 1) := by decide +kernel
theorem dX2_snapshotsKept_5 : decode cX2_snapshotsKept 5 = .ok (.aload_n 0, 1) := by decide +kernel
theorem dX2_snapshotsKept_6 : decode cX2_snapshotsKept 6 = .ok (.getfield 22, 3) := by decide +kernel
theorem dX2_snapshotsKept_9 : decode cX2_snapshotsKept 9 = .ok (.arraylength, 1) := by decide +kernel
theorem dX2_snapshotsKept_10 : decode cX2_snapshotsKept 10 = .ok (.if_icmp .ge 22, 3) := by decide +kernel
theorem dX2_snapshotsKept_13 : decode cX2_snapshotsKept 13 = .ok (.aload_n 0, 1) := by decide +kernel
theorem dX2_snapshotsKept_14 : decode cX2_snapshotsKept 14 = .ok (.getfield 22, 3) := by decide +kernel
theorem dX2_snapshotsKept_17 : decode cX2_snapshotsKept 17 = .ok (.iload_n 2, 1) := by decide +kernel
theorem dX2_snapshotsKept_18 : decode cX2_snapshotsKept 18 = .ok (.iaload, 1) := by decide +kernel
theorem dX2_snapshotsKept_19 : decode cX2_snapshotsKept 19 = .ok (.iconst (-1), 1) := by decide +kernel
theorem dX2_snapshotsKept_20 : decode cX2_snapshotsKept 20 = .ok (.if_icmp .eq 6, 3) := by decide +kernel
theorem dX2_snapshotsKept_23 : decode cX2_snapshotsKept 23 = .ok (.iinc 1 1, 3) := by decide +kernel
theorem dX2_snapshotsKept_26 : decode cX2_snapshotsKept 26 = .ok (.iinc 2 1, 3) := by decide +kernel
theorem dX2_snapshotsKept_29 : decode cX2_snapshotsKept 29 = .ok (.goto (-25), 3) := by decide +kernel
theorem dX2_snapshotsKept_32 : decode cX2_snapshotsKept 32 = .ok (.iload_n 1, 1) := by decide +kernel
theorem dX2_snapshotsKept_33 : decode cX2_snapshotsKept 33 = .ok (.ireturn, 1) := by decide +kernel
theorem dX2_take_0 : decode cX2_take 0 = .ok (.aload_n 0, 1) := by decide +kernel
theorem dX2_take_1 : decode cX2_take 1 = .ok (.getfield 105, 3) := by decide +kernel
theorem dX2_take_4 : decode cX2_take 4 = .ok (.istore_n 1, 1) := by decide +kernel
theorem dX2_take_5 : decode cX2_take 5 = .ok (.iconst 0, 1) := by decide +kernel
theorem dX2_take_6 : decode cX2_take 6 = .ok (.istore_n 2, 1) := by decide +kernel
theorem dX2_take_7 : decode cX2_take 7 = .ok (.iload_n 2, 1) := by decide +kernel
theorem dX2_take_8 : decode cX2_take 8 = .ok (.aload_n 0, 1) := by decide +kernel
theorem dX2_take_9 : decode cX2_take 9 = .ok (.getfield 22, 3) := by decide +kernel
theorem dX2_take_12 : decode cX2_take 12 = .ok (.arraylength, 1) := by decide +kernel
theorem dX2_take_13 : decode cX2_take 13 = .ok (.if_icmp .ge 56, 3) := by decide +kernel
theorem dX2_take_16 : decode cX2_take 16 = .ok (.aload_n 0, 1) := by decide +kernel
theorem dX2_take_17 : decode cX2_take 17 = .ok (.iload_n 2, 1) := by decide +kernel
theorem dX2_take_18 : decode cX2_take 18 = .ok (.invokevirtual 50, 3) := by decide +kernel
theorem dX2_take_21 : decode cX2_take 21 = .ok (.astore_n 3, 1) := by decide +kernel
theorem dX2_take_22 : decode cX2_take 22 = .ok (.aload_n 0, 1) := by decide +kernel
theorem dX2_take_23 : decode cX2_take 23 = .ok (.getfield 22, 3) := by decide +kernel
theorem dX2_take_26 : decode cX2_take 26 = .ok (.iload_n 2, 1) := by decide +kernel
theorem dX2_take_27 : decode cX2_take 27 = .ok (.iaload, 1) := by decide +kernel
theorem dX2_take_28 : decode cX2_take 28 = .ok (.iconst (-1), 1) := by decide +kernel
theorem dX2_take_29 : decode cX2_take 29 = .ok (.if_icmp .ne 34, 3) := by decide +kernel
theorem dX2_take_32 : decode cX2_take 32 = .ok (.aload_n 3, 1) := by decide +kernel
theorem dX2_take_33 : decode cX2_take 33 = .ok (.ifnull 30, 3) := by decide +kernel
theorem dX2_take_36 : decode cX2_take 36 = .ok (.aload_n 3, 1) := by decide +kernel
theorem dX2_take_37 : decode cX2_take 37 = .ok (.aload_n 0, 1) := by decide +kernel
theorem dX2_take_38 : decode cX2_take 38 = .ok (.getfield 12, 3) := by decide +kernel
theorem dX2_take_41 : decode cX2_take 41 = .ok (.invokevirtual 108, 3) := by decide +kernel
theorem dX2_take_44 : decode cX2_take 44 = .ok (.aload_n 0, 1) := by decide +kernel
theorem dX2_take_45 : decode cX2_take 45 = .ok (.getfield 22, 3) := by decide +kernel
theorem dX2_take_48 : decode cX2_take 48 = .ok (.iload_n 2, 1) := by decide +kernel
theorem dX2_take_49 : decode cX2_take 49 = .ok (.iload_n 1, 1) := by decide +kernel
theorem dX2_take_50 : decode cX2_take 50 = .ok (.iastore, 1) := by decide +kernel
theorem dX2_take_51 : decode cX2_take 51 = .ok (.aload_n 0, 1) := by decide +kernel
theorem dX2_take_52 : decode cX2_take 52 = .ok (.dup, 1) := by decide +kernel
theorem dX2_take_53 : decode cX2_take 53 = .ok (.getfield 105, 3) := by decide +kernel
theorem dX2_take_56 : decode cX2_take 56 = .ok (.iconst 1, 1) := by decide +kernel
theorem dX2_take_57 : decode cX2_take 57 = .ok (.iadd, 1) := by decide +kernel
theorem dX2_take_58 : decode cX2_take 58 = .ok (.putfield 105, 3) := by decide +kernel
theorem dX2_take_61 : decode cX2_take 61 = .ok (.iload_n 1, 1) := by decide +kernel
theorem dX2_take_62 : decode cX2_take 62 = .ok (.ireturn, 1) := by decide +kernel
theorem dX2_take_63 : decode cX2_take 63 = .ok (.iinc 2 1, 3) := by decide +kernel
theorem dX2_take_66 : decode cX2_take 66 = .ok (.goto (-59), 3) := by decide +kernel
theorem dX2_take_69 : decode cX2_take 69 = .ok (.iload_n 1, 1) := by decide +kernel
theorem dX2_take_70 : decode cX2_take 70 = .ok (.ireturn, 1) := by decide +kernel
theorem dX2_shelfOf_0 : decode cX2_shelfOf 0 = .ok (.iconst 0, 1) := by decide +kernel
theorem dX2_shelfOf_1 : decode cX2_shelfOf 1 = .ok (.istore_n 2, 1) := by decide +kernel
theorem dX2_shelfOf_2 : decode cX2_shelfOf 2 = .ok (.iload_n 2, 1) := by decide +kernel
theorem dX2_shelfOf_3 : decode cX2_shelfOf 3 = .ok (.aload_n 0, 1) := by decide +kernel
theorem dX2_shelfOf_4 : decode cX2_shelfOf 4 = .ok (.getfield 22, 3) := by decide +kernel
theorem dX2_shelfOf_7 : decode cX2_shelfOf 7 = .ok (.arraylength, 1) := by decide +kernel
theorem dX2_shelfOf_8 : decode cX2_shelfOf 8 = .ok (.if_icmp .ge 26, 3) := by decide +kernel
theorem dX2_shelfOf_11 : decode cX2_shelfOf 11 = .ok (.aload_n 0, 1) := by decide +kernel
theorem dX2_shelfOf_12 : decode cX2_shelfOf 12 = .ok (.getfield 22, 3) := by decide +kernel
theorem dX2_shelfOf_15 : decode cX2_shelfOf 15 = .ok (.iload_n 2, 1) := by decide +kernel
theorem dX2_shelfOf_16 : decode cX2_shelfOf 16 = .ok (.iaload, 1) := by decide +kernel
theorem dX2_shelfOf_17 : decode cX2_shelfOf 17 = .ok (.iload_n 1, 1) := by decide +kernel
theorem dX2_shelfOf_18 : decode cX2_shelfOf 18 = .ok (.if_icmp .ne 10, 3) := by decide +kernel
theorem dX2_shelfOf_21 : decode cX2_shelfOf 21 = .ok (.iload_n 1, 1) := by decide +kernel
theorem dX2_shelfOf_22 : decode cX2_shelfOf 22 = .ok (.iconst (-1), 1) := by decide +kernel
theorem dX2_shelfOf_23 : decode cX2_shelfOf 23 = .ok (.if_icmp .eq 5, 3) := by decide +kernel
theorem dX2_shelfOf_26 : decode cX2_shelfOf 26 = .ok (.iload_n 2, 1) := by decide +kernel
theorem dX2_shelfOf_27 : decode cX2_shelfOf 27 = .ok (.ireturn, 1) := by decide +kernel
theorem dX2_shelfOf_28 : decode cX2_shelfOf 28 = .ok (.iinc 2 1, 3) := by decide +kernel
theorem dX2_shelfOf_31 : decode cX2_shelfOf 31 = .ok (.goto (-29), 3) := by decide +kernel
theorem dX2_shelfOf_34 : decode cX2_shelfOf 34 = .ok (.iconst (-1), 1) := by decide +kernel
theorem dX2_shelfOf_35 : decode cX2_shelfOf 35 = .ok (.ireturn, 1) := by decide +kernel
theorem dX2_isWhole_0 : decode cX2_isWhole 0 = .ok (.iconst 0, 1) := by decide +kernel
theorem dX2_isWhole_1 : decode cX2_isWhole 1 = .ok (.istore_n 1, 1) := by decide +kernel
theorem dX2_isWhole_2 : decode cX2_isWhole 2 = .ok (.iload_n 1, 1) := by decide +kernel
theorem dX2_isWhole_3 : decode cX2_isWhole 3 = .ok (.aload_n 0, 1) := by decide +kernel
theorem dX2_isWhole_4 : decode cX2_isWhole 4 = .ok (.getfield 22, 3) := by decide +kernel
theorem dX2_isWhole_7 : decode cX2_isWhole 7 = .ok (.arraylength, 1) := by decide +kernel
theorem dX2_isWhole_8 : decode cX2_isWhole 8 = .ok (.if_icmp .ge 38, 3) := by decide +kernel
theorem dX2_isWhole_11 : decode cX2_isWhole 11 = .ok (.aload_n 0, 1) := by decide +kernel
theorem dX2_isWhole_12 : decode cX2_isWhole 12 = .ok (.iload_n 1, 1) := by decide +kernel
theorem dX2_isWhole_13 : decode cX2_isWhole 13 = .ok (.invokevirtual 50, 3) := by decide +kernel
theorem dX2_isWhole_16 : decode cX2_isWhole 16 = .ok (.astore_n 2, 1) := by decide +kernel
theorem dX2_isWhole_17 : decode cX2_isWhole 17 = .ok (.aload_n 0, 1) := by decide +kernel
theorem dX2_isWhole_18 : decode cX2_isWhole 18 = .ok (.getfield 22, 3) := by decide +kernel
theorem dX2_isWhole_21 : decode cX2_isWhole 21 = .ok (.iload_n 1, 1) := by decide +kernel
theorem dX2_isWhole_22 : decode cX2_isWhole 22 = .ok (.iaload, 1) := by decide +kernel
theorem dX2_isWhole_23 : decode cX2_isWhole 23 = .ok (.iconst (-1), 1) := by decide +kernel
theorem dX2_isWhole_24 : decode cX2_isWhole 24 = .ok (.if_icmp .eq 16, 3) := by decide +kernel
theorem dX2_isWhole_27 : decode cX2_isWhole 27 = .ok (.aload_n 2, 1) := by decide +kernel
theorem dX2_isWhole_28 : decode cX2_isWhole 28 = .ok (.ifnull 12, 3) := by decide +kernel
theorem dX2_isWhole_31 : decode cX2_isWhole 31 = .ok (.aload_n 2, 1) := by decide +kernel
theorem dX2_isWhole_32 : decode cX2_isWhole 32 = .ok (.invokevirtual 118, 3) := by decide +kernel
theorem dX2_isWhole_35 : decode cX2_isWhole 35 = .ok (.ifCond .ne 5, 3) := by decide +kernel
theorem dX2_isWhole_38 : decode cX2_isWhole 38 = .ok (.iconst 0, 1) := by decide +kernel
theorem dX2_isWhole_39 : decode cX2_isWhole 39 = .ok (.ireturn, 1) := by decide +kernel
theorem dX2_isWhole_40 : decode cX2_isWhole 40 = .ok (.iinc 1 1, 3) := by decide +kernel
theorem dX2_isWhole_43 : decode cX2_isWhole 43 = .ok (.goto (-41), 3) := by decide +kernel
theorem dX2_isWhole_46 : decode cX2_isWhole 46 = .ok (.aload_n 0, 1) := by decide +kernel
theorem dX2_isWhole_47 : decode cX2_isWhole 47 = .ok (.getfield 12, 3) := by decide +kernel
theorem dX2_isWhole_50 : decode cX2_isWhole 50 = .ok (.invokevirtual 118, 3) := by decide +kernel
theorem dX2_isWhole_53 : decode cX2_isWhole 53 = .ok (.ifCond .eq 24, 3) := by decide +kernel
theorem dX2_isWhole_56 : decode cX2_isWhole 56 = .ok (.aload_n 0, 1) := by decide +kernel
theorem dX2_isWhole_57 : decode cX2_isWhole 57 = .ok (.getfield 29, 3) := by decide +kernel
theorem dX2_isWhole_60 : decode cX2_isWhole 60 = .ok (.aload_n 0, 1) := by decide +kernel
theorem dX2_isWhole_61 : decode cX2_isWhole 61 = .ok (.getfield 12, 3) := by decide +kernel
theorem dX2_isWhole_64 : decode cX2_isWhole 64 = .ok (.invokevirtual 54, 3) := by decide +kernel
theorem dX2_isWhole_67 : decode cX2_isWhole 67 = .ok (.invokevirtual 122, 3) := by decide +kernel
theorem dX2_isWhole_70 : decode cX2_isWhole 70 = .ok (.ifCond .eq 7, 3) := by decide +kernel
theorem dX2_isWhole_73 : decode cX2_isWhole 73 = .ok (.iconst 1, 1) := by decide +kernel
theorem dX2_isWhole_74 : decode cX2_isWhole 74 = .ok (.goto 4, 3) := by decide +kernel
theorem dX2_isWhole_77 : decode cX2_isWhole 77 = .ok (.iconst 0, 1) := by decide +kernel
theorem dX2_isWhole_78 : decode cX2_isWhole 78 = .ok (.ireturn, 1) := by decide +kernel
theorem dX3_init_0 : decode cX3_init 0 = .ok (.aload_n 0, 1) := by decide +kernel
theorem dX3_init_1 : decode cX3_init 1 = .ok (.invokespecial 3, 3) := by decide +kernel
theorem dX3_init_4 : decode cX3_init 4 = .ok (.aload_n 0, 1) := by decide +kernel
theorem dX3_init_5 : decode cX3_init 5 = .ok (.bipush 40, 2) := by decide +kernel
theorem dX3_init_7 : decode cX3_init 7 = .ok (.newarray .int, 2) := by decide +kernel
theorem dX3_init_9 : decode cX3_init 9 = .ok (.putfield 9, 3) := by decide +kernel
theorem dX3_init_12 : decode cX3_init 12 = .ok (.return_, 1) := by decide +kernel
theorem dX4_init_0 : decode cX4_init 0 = .ok (.aload_n 0, 1) := by decide +kernel
theorem dX4_init_1 : decode cX4_init 1 = .ok (.invokespecial 3, 3) := by decide +kernel
theorem dX4_init_4 : decode cX4_init 4 = .ok (.aload_n 0, 1) := by decide +kernel
theorem dX4_init_5 : decode cX4_init 5 = .ok (.bipush 40, 2) := by decide +kernel
theorem dX4_init_7 : decode cX4_init 7 = .ok (.newarray .int, 2) := by decide +kernel
theorem dX4_init_9 : decode cX4_init 9 = .ok (.putfield 9, 3) := by decide +kernel
theorem dX4_init_12 : decode cX4_init 12 = .ok (.aload_n 0, 1) := by decide +kernel
theorem dX4_init_13 : decode cX4_init 13 = .ok (.bipush 40, 2) := by decide +kernel
theorem dX4_init_15 : decode cX4_init 15 = .ok (.newarray .int, 2) := by decide +kernel
theorem dX4_init_17 : decode cX4_init 17 = .ok (.putfield 15, 3) := by decide +kernel
theorem dX4_init_20 : decode cX4_init 20 = .ok (.aload_n 0, 1) := by decide +kernel
theorem dX4_init_21 : decode cX4_init 21 = .ok (.bipush 40, 2) := by decide +kernel
theorem dX4_init_23 : decode cX4_init 23 = .ok (.newarray .int, 2) := by decide +kernel
theorem dX4_init_25 : decode cX4_init 25 = .ok (.putfield 18, 3) := by decide +kernel
theorem dX4_init_28 : decode cX4_init 28 = .ok (.return_, 1) := by decide +kernel
theorem dX5_init_0 : decode cX5_init 0 = .ok (.aload_n 0, 1) := by decide +kernel
theorem dX5_init_1 : decode cX5_init 1 = .ok (.invokespecial 3, 3) := by decide +kernel
theorem dX5_init_4 : decode cX5_init 4 = .ok (.aload_n 0, 1) := by decide +kernel
theorem dX5_init_5 : decode cX5_init 5 = .ok (.bipush 20, 2) := by decide +kernel
theorem dX5_init_7 : decode cX5_init 7 = .ok (.newarray .int, 2) := by decide +kernel
theorem dX5_init_9 : decode cX5_init 9 = .ok (.putfield 9, 3) := by decide +kernel
theorem dX5_init_12 : decode cX5_init 12 = .ok (.aload_n 0, 1) := by decide +kernel
theorem dX5_init_13 : decode cX5_init 13 = .ok (.iconst 5, 1) := by decide +kernel
theorem dX5_init_14 : decode cX5_init 14 = .ok (.newarray .int, 2) := by decide +kernel
theorem dX5_init_16 : decode cX5_init 16 = .ok (.putfield 15, 3) := by decide +kernel
theorem dX5_init_19 : decode cX5_init 19 = .ok (.return_, 1) := by decide +kernel
theorem dX6_init_0 : decode cX6_init 0 = .ok (.aload_n 0, 1) := by decide +kernel
theorem dX6_init_1 : decode cX6_init 1 = .ok (.invokespecial 3, 3) := by decide +kernel
theorem dX6_init_4 : decode cX6_init 4 = .ok (.aload_n 0, 1) := by decide +kernel
theorem dX6_init_5 : decode cX6_init 5 = .ok (.bipush 20, 2) := by decide +kernel
theorem dX6_init_7 : decode cX6_init 7 = .ok (.newarray .char, 2) := by decide +kernel
theorem dX6_init_9 : decode cX6_init 9 = .ok (.putfield 9, 3) := by decide +kernel
theorem dX6_init_12 : decode cX6_init 12 = .ok (.return_, 1) := by decide +kernel
theorem dX6_size_0 : decode cX6_size 0 = .ok (.aload_n 0, 1) := by decide +kernel
theorem dX6_size_1 : decode cX6_size 1 = .ok (.getfield 15, 3) := by decide +kernel
theorem dX6_size_4 : decode cX6_size 4 = .ok (.ireturn, 1) := by decide +kernel
theorem dX6_sign_0 : decode cX6_sign 0 = .ok (.iload_n 1, 1) := by decide +kernel
theorem dX6_sign_1 : decode cX6_sign 1 = .ok (.ifCond .lt 29, 3) := by decide +kernel
theorem dX6_sign_4 : decode cX6_sign 4 = .ok (.iload_n 1, 1) := by decide +kernel
theorem dX6_sign_5 : decode cX6_sign 5 = .ok (.aload_n 0, 1) := by decide +kernel
theorem dX6_sign_6 : decode cX6_sign 6 = .ok (.getfield 15, 3) := by decide +kernel
theorem dX6_sign_9 : decode cX6_sign 9 = .ok (.if_icmp .ge 21, 3) := by decide +kernel
theorem dX6_sign_12 : decode cX6_sign 12 = .ok (.iload_n 1, 1) := by decide +kernel
theorem dX6_sign_13 : decode cX6_sign 13 = .ok (.aload_n 0, 1) := by decide +kernel
theorem dX6_sign_14 : decode cX6_sign 14 = .ok (.getfield 9, 3) := by decide +kernel
theorem dX6_sign_17 : decode cX6_sign 17 = .ok (.arraylength, 1) := by decide +kernel
theorem dX6_sign_18 : decode cX6_sign 18 = .ok (.if_icmp .ge 12, 3) := by decide +kernel
theorem dX6_sign_21 : decode cX6_sign 21 = .ok (.aload_n 0, 1) := by decide +kernel
theorem dX6_sign_22 : decode cX6_sign 22 = .ok (.getfield 9, 3) := by decide +kernel
theorem dX6_sign_25 : decode cX6_sign 25 = .ok (.iload_n 1, 1) := by decide +kernel
theorem dX6_sign_26 : decode cX6_sign 26 = .ok (.caload, 1) := by decide +kernel
theorem dX6_sign_27 : decode cX6_sign 27 = .ok (.goto 4, 3) := by decide +kernel
theorem dX6_sign_30 : decode cX6_sign 30 = .ok (.iconst 0, 1) := by decide +kernel
theorem dX6_sign_31 : decode cX6_sign 31 = .ok (.ireturn, 1) := by decide +kernel
theorem dX6_append_0 : decode cX6_append 0 = .ok (.aload_n 0, 1) := by decide +kernel
theorem dX6_append_1 : decode cX6_append 1 = .ok (.getfield 15, 3) := by decide +kernel
theorem dX6_append_4 : decode cX6_append 4 = .ok (.ifCond .lt 35, 3) := by decide +kernel
theorem dX6_append_7 : decode cX6_append 7 = .ok (.aload_n 0, 1) := by decide +kernel
theorem dX6_append_8 : decode cX6_append 8 = .ok (.getfield 15, 3) := by decide +kernel
theorem dX6_append_11 : decode cX6_append 11 = .ok (.aload_n 0, 1) := by decide +kernel
theorem dX6_append_12 : decode cX6_append 12 = .ok (.getfield 9, 3) := by decide +kernel
theorem dX6_append_15 : decode cX6_append 15 = .ok (.arraylength, 1) := by decide +kernel
theorem dX6_append_16 : decode cX6_append 16 = .ok (.if_icmp .ge 23, 3) := by decide +kernel
theorem dX6_append_19 : decode cX6_append 19 = .ok (.aload_n 0, 1) := by decide +kernel
theorem dX6_append_20 : decode cX6_append 20 = .ok (.getfield 9, 3) := by decide +kernel
theorem dX6_append_23 : decode cX6_append 23 = .ok (.aload_n 0, 1) := by decide +kernel
theorem dX6_append_24 : decode cX6_append 24 = .ok (.getfield 15, 3) := by decide +kernel
theorem dX6_append_27 : decode cX6_append 27 = .ok (.iload_n 1, 1) := by decide +kernel
theorem dX6_append_28 : decode cX6_append 28 = .ok (.castore, 1) := by decide +kernel
theorem dX6_append_29 : decode cX6_append 29 = .ok (.aload_n 0, 1) := by decide +kernel
theorem dX6_append_30 : decode cX6_append 30 = .ok (.dup, 1) := by decide +kernel
theorem dX6_append_31 : decode cX6_append 31 = .ok (.getfield 15, 3) := by decide +kernel
theorem dX6_append_34 : decode cX6_append 34 = .ok (.iconst 1, 1) := by decide +kernel
theorem dX6_append_35 : decode cX6_append 35 = .ok (.iadd, 1) := by decide +kernel
theorem dX6_append_36 : decode cX6_append 36 = .ok (.putfield 15, 3) := by decide +kernel
theorem dX6_append_39 : decode cX6_append 39 = .ok (.return_, 1) := by decide +kernel
theorem dX6_empty_0 : decode cX6_empty 0 = .ok (.aload_n 0, 1) := by decide +kernel
theorem dX6_empty_1 : decode cX6_empty 1 = .ok (.iconst 0, 1) := by decide +kernel
theorem dX6_empty_2 : decode cX6_empty 2 = .ok (.putfield 15, 3) := by decide +kernel
theorem dX6_empty_5 : decode cX6_empty 5 = .ok (.return_, 1) := by decide +kernel
theorem dX6_isPlain_0 : decode cX6_isPlain 0 = .ok (.iconst 0, 1) := by decide +kernel
theorem dX6_isPlain_1 : decode cX6_isPlain 1 = .ok (.istore_n 1, 1) := by decide +kernel
theorem dX6_isPlain_2 : decode cX6_isPlain 2 = .ok (.iload_n 1, 1) := by decide +kernel
theorem dX6_isPlain_3 : decode cX6_isPlain 3 = .ok (.aload_n 0, 1) := by decide +kernel
theorem dX6_isPlain_4 : decode cX6_isPlain 4 = .ok (.getfield 15, 3) := by decide +kernel
theorem dX6_isPlain_7 : decode cX6_isPlain 7 = .ok (.if_icmp .ge 22, 3) := by decide +kernel
theorem dX6_isPlain_10 : decode cX6_isPlain 10 = .ok (.aload_n 0, 1) := by decide +kernel
theorem dX6_isPlain_11 : decode cX6_isPlain 11 = .ok (.iload_n 1, 1) := by decide +kernel
theorem dX6_isPlain_12 : decode cX6_isPlain 12 = .ok (.invokevirtual 25, 3) := by decide +kernel
theorem dX6_isPlain_15 : decode cX6_isPlain 15 = .ok (.invokestatic 33, 3) := by decide +kernel
theorem dX6_isPlain_18 : decode cX6_isPlain 18 = .ok (.ifCond .ne 5, 3) := by decide +kernel
theorem dX6_isPlain_21 : decode cX6_isPlain 21 = .ok (.iconst 0, 1) := by decide +kernel
theorem dX6_isPlain_22 : decode cX6_isPlain 22 = .ok (.ireturn, 1) := by decide +kernel
theorem dX6_isPlain_23 : decode cX6_isPlain 23 = .ok (.iinc 1 1, 3) := by decide +kernel
theorem dX6_isPlain_26 : decode cX6_isPlain 26 = .ok (.goto (-24), 3) := by decide +kernel
theorem dX6_isPlain_29 : decode cX6_isPlain 29 = .ok (.aload_n 0, 1) := by decide +kernel
theorem dX6_isPlain_30 : decode cX6_isPlain 30 = .ok (.getfield 15, 3) := by decide +kernel
theorem dX6_isPlain_33 : decode cX6_isPlain 33 = .ok (.ifCond .le 7, 3) := by decide +kernel
theorem dX6_isPlain_36 : decode cX6_isPlain 36 = .ok (.iconst 1, 1) := by decide +kernel
theorem dX6_isPlain_37 : decode cX6_isPlain 37 = .ok (.goto 4, 3) := by decide +kernel
theorem dX6_isPlain_40 : decode cX6_isPlain 40 = .ok (.iconst 0, 1) := by decide +kernel
theorem dX6_isPlain_41 : decode cX6_isPlain 41 = .ok (.ireturn, 1) := by decide +kernel
theorem dX6_isSimple_0 : decode cX6_isSimple 0 = .ok (.iconst 0, 1) := by decide +kernel
theorem dX6_isSimple_1 : decode cX6_isSimple 1 = .ok (.istore_n 1, 1) := by decide +kernel
theorem dX6_isSimple_2 : decode cX6_isSimple 2 = .ok (.iconst 0, 1) := by decide +kernel
theorem dX6_isSimple_3 : decode cX6_isSimple 3 = .ok (.istore_n 2, 1) := by decide +kernel
theorem dX6_isSimple_4 : decode cX6_isSimple 4 = .ok (.iload_n 2, 1) := by decide +kernel
theorem dX6_isSimple_5 : decode cX6_isSimple 5 = .ok (.aload_n 0, 1) := by decide +kernel
theorem dX6_isSimple_6 : decode cX6_isSimple 6 = .ok (.getfield 15, 3) := by decide +kernel
theorem dX6_isSimple_9 : decode cX6_isSimple 9 = .ok (.if_icmp .ge 63, 3) := by decide +kernel
theorem dX6_isSimple_12 : decode cX6_isSimple 12 = .ok (.aload_n 0, 1) := by decide +kernel
theorem dX6_isSimple_13 : decode cX6_isSimple 13 = .ok (.iload_n 2, 1) := by decide +kernel
theorem dX6_isSimple_14 : decode cX6_isSimple 14 = .ok (.invokevirtual 25, 3) := by decide +kernel
theorem dX6_isSimple_17 : decode cX6_isSimple 17 = .ok (.istore_n 3, 1) := by decide +kernel
theorem dX6_isSimple_18 : decode cX6_isSimple 18 = .ok (.iload_n 3, 1) := by decide +kernel
theorem dX6_isSimple_19 : decode cX6_isSimple 19 = .ok (.invokestatic 33, 3) := by decide +kernel
theorem dX6_isSimple_22 : decode cX6_isSimple 22 = .ok (.ifCond .ne 9, 3) := by decide +kernel
theorem dX6_isSimple_25 : decode cX6_isSimple 25 = .ok (.iload_n 3, 1) := by decide +kernel
theorem dX6_isSimple_26 : decode cX6_isSimple 26 = .ok (.bipush 46, 2) := by decide +kernel
theorem dX6_isSimple_28 : decode cX6_isSimple 28 = .ok (.if_icmp .ne 7, 3) := by decide +kernel
theorem dX6_isSimple_31 : decode cX6_isSimple 31 = .ok (.iconst 1, 1) := by decide +kernel
theorem dX6_isSimple_32 : decode cX6_isSimple 32 = .ok (.goto 4, 3) := by decide +kernel
theorem dX6_isSimple_35 : decode cX6_isSimple 35 = .ok (.iconst 0, 1) := by decide +kernel
theorem dX6_isSimple_36 : decode cX6_isSimple 36 = .ok (.istore 4, 2) := by decide +kernel
theorem dX6_isSimple_38 : decode cX6_isSimple 38 = .ok (.iload 4, 2) := by decide +kernel
theorem dX6_isSimple_40 : decode cX6_isSimple 40 = .ok (.ifCond .ne 11, 3) := by decide +kernel
theorem dX6_isSimple_43 : decode cX6_isSimple 43 = .ok (.iload_n 3, 1) := by decide +kernel
theorem dX6_isSimple_44 : decode cX6_isSimple 44 = .ok (.bipush 126, 2) := by decide +kernel
theorem dX6_isSimple_46 : decode cX6_isSimple 46 = .ok (.if_icmp .eq 5, 3) := by decide +kernel
theorem dX6_isSimple_49 : decode cX6_isSimple 49 = .ok (.iconst 0, 1) := by decide +kernel
theorem dX6_isSimple_50 : decode cX6_isSimple 50 = .ok (.ireturn, 1) := by decide +kernel
theorem dX6_isSimple_51 : decode cX6_isSimple 51 = .ok (.iload_n 1, 1) := by decide +kernel
theorem dX6_isSimple_52 : decode cX6_isSimple 52 = .ok (.ifCond .ne 8, 3) := by decide +kernel
theorem dX6_isSimple_55 : decode cX6_isSimple 55 = .ok (.iload 4, 2) := by decide +kernel
theorem dX6_isSimple_57 : decode cX6_isSimple 57 = .ok (.ifCond .eq 7, 3) := by decide +kernel
theorem dX6_isSimple_60 : decode cX6_isSimple 60 = .ok (.iconst 1, 1) := by decide +kernel
theorem dX6_isSimple_61 : decode cX6_isSimple 61 = .ok (.goto 4, 3) := by decide +kernel
theorem dX6_isSimple_64 : decode cX6_isSimple 64 = .ok (.iconst 0, 1) := by decide +kernel
theorem dX6_isSimple_65 : decode cX6_isSimple 65 = .ok (.istore_n 1, 1) := by decide +kernel
theorem dX6_isSimple_66 : decode cX6_isSimple 66 = .ok (.iinc 2 1, 3) := by decide +kernel
theorem dX6_isSimple_69 : decode cX6_isSimple 69 = .ok (.goto (-65), 3) := by decide +kernel
theorem dX6_isSimple_72 : decode cX6_isSimple 72 = .ok (.iload_n 1, 1) := by decide +kernel
theorem dX6_isSimple_73 : decode cX6_isSimple 73 = .ok (.ireturn, 1) := by decide +kernel
theorem dX7_init_0 : decode cX7_init 0 = .ok (.aload_n 0, 1) := by decide +kernel
theorem dX7_init_1 : decode cX7_init 1 = .ok (.invokespecial 3, 3) := by decide +kernel
theorem dX7_init_4 : decode cX7_init 4 = .ok (.aload_n 0, 1) := by decide +kernel
theorem dX7_init_5 : decode cX7_init 5 = .ok (.sipush 512, 3) := by decide +kernel
theorem dX7_init_8 : decode cX7_init 8 = .ok (.newarray .int, 2) := by decide +kernel
theorem dX7_init_10 : decode cX7_init 10 = .ok (.putfield 9, 3) := by decide +kernel
theorem dX7_init_13 : decode cX7_init 13 = .ok (.aload_n 0, 1) := by decide +kernel
theorem dX7_init_14 : decode cX7_init 14 = .ok (.sipush 512, 3) := by decide +kernel
theorem dX7_init_17 : decode cX7_init 17 = .ok (.newarray .int, 2) := by decide +kernel
theorem dX7_init_19 : decode cX7_init 19 = .ok (.putfield 15, 3) := by decide +kernel
theorem dX7_init_22 : decode cX7_init 22 = .ok (.aload_n 0, 1) := by decide +kernel
theorem dX7_init_23 : decode cX7_init 23 = .ok (.sipush 512, 3) := by decide +kernel
theorem dX7_init_26 : decode cX7_init 26 = .ok (.newarray .int, 2) := by decide +kernel
theorem dX7_init_28 : decode cX7_init 28 = .ok (.putfield 18, 3) := by decide +kernel
theorem dX7_init_31 : decode cX7_init 31 = .ok (.aload_n 0, 1) := by decide +kernel
theorem dX7_init_32 : decode cX7_init 32 = .ok (.bipush 40, 2) := by decide +kernel
theorem dX7_init_34 : decode cX7_init 34 = .ok (.newarray .int, 2) := by decide +kernel
theorem dX7_init_36 : decode cX7_init 36 = .ok (.putfield 21, 3) := by decide +kernel
theorem dX7_init_39 : decode cX7_init 39 = .ok (.aload_n 0, 1) := by decide +kernel
theorem dX7_init_40 : decode cX7_init 40 = .ok (.getfield 21, 3) := by decide +kernel
theorem dX7_init_43 : decode cX7_init 43 = .ok (.iconst (-1), 1) := by decide +kernel
theorem dX7_init_44 : decode cX7_init 44 = .ok (.invokestatic 24, 3) := by decide +kernel
theorem dX7_init_47 : decode cX7_init 47 = .ok (.return_, 1) := by decide +kernel
theorem dX7_isSegment_0 : decode cX7_isSegment 0 = .ok (.iload_n 1, 1) := by decide +kernel
theorem dX7_isSegment_1 : decode cX7_isSegment 1 = .ok (.ifCond .lt 22, 3) := by decide +kernel
theorem dX7_isSegment_4 : decode cX7_isSegment 4 = .ok (.iload_n 1, 1) := by decide +kernel
theorem dX7_isSegment_5 : decode cX7_isSegment 5 = .ok (.aload_n 0, 1) := by decide +kernel
theorem dX7_isSegment_6 : decode cX7_isSegment 6 = .ok (.getfield 30, 3) := by decide +kernel
theorem dX7_isSegment_9 : decode cX7_isSegment 9 = .ok (.if_icmp .ge 14, 3) := by decide +kernel
theorem dX7_isSegment_12 : decode cX7_isSegment 12 = .ok (.iload_n 1, 1) := by decide +kernel
theorem dX7_isSegment_13 : decode cX7_isSegment 13 = .ok (.sipush 512, 3) := by decide +kernel
theorem dX7_isSegment_16 : decode cX7_isSegment 16 = .ok (.if_icmp .ge 7, 3) := by decide +kernel
theorem dX7_isSegment_19 : decode cX7_isSegment 19 = .ok (.iconst 1, 1) := by decide +kernel
theorem dX7_isSegment_20 : decode cX7_isSegment 20 = .ok (.goto 4, 3) := by decide +kernel
theorem dX7_isSegment_23 : decode cX7_isSegment 23 = .ok (.iconst 0, 1) := by decide +kernel
theorem dX7_isSegment_24 : decode cX7_isSegment 24 = .ok (.ireturn, 1) := by decide +kernel
theorem dX7_homeOf_0 : decode cX7_homeOf 0 = .ok (.iload_n 1, 1) := by decide +kernel
theorem dX7_homeOf_1 : decode cX7_homeOf 1 = .ok (.ifCond .lt 21, 3) := by decide +kernel
theorem dX7_homeOf_4 : decode cX7_homeOf 4 = .ok (.iload_n 1, 1) := by decide +kernel
theorem dX7_homeOf_5 : decode cX7_homeOf 5 = .ok (.aload_n 0, 1) := by decide +kernel
theorem dX7_homeOf_6 : decode cX7_homeOf 6 = .ok (.getfield 21, 3) := by decide +kernel
theorem dX7_homeOf_9 : decode cX7_homeOf 9 = .ok (.arraylength, 1) := by decide +kernel
theorem dX7_homeOf_10 : decode cX7_homeOf 10 = .ok (.if_icmp .ge 12, 3) := by decide +kernel
theorem dX7_homeOf_13 : decode cX7_homeOf 13 = .ok (.aload_n 0, 1) := by decide +kernel
theorem dX7_homeOf_14 : decode cX7_homeOf 14 = .ok (.getfield 21, 3) := by decide +kernel
theorem dX7_homeOf_17 : decode cX7_homeOf 17 = .ok (.iload_n 1, 1) := by decide +kernel
theorem dX7_homeOf_18 : decode cX7_homeOf 18 = .ok (.iaload, 1) := by decide +kernel
theorem dX7_homeOf_19 : decode cX7_homeOf 19 = .ok (.goto 4, 3) := by decide +kernel
theorem dX7_homeOf_22 : decode cX7_homeOf 22 = .ok (.iconst (-1), 1) := by decide +kernel
theorem dX7_homeOf_23 : decode cX7_homeOf 23 = .ok (.ireturn, 1) := by decide +kernel
theorem dX7_setHome_0 : decode cX7_setHome 0 = .ok (.iload_n 1, 1) := by decide +kernel
theorem dX7_setHome_1 : decode cX7_setHome 1 = .ok (.ifCond .lt 19, 3) := by decide +kernel
theorem dX7_setHome_4 : decode cX7_setHome 4 = .ok (.iload_n 1, 1) := by decide +kernel
theorem dX7_setHome_5 : decode cX7_setHome 5 = .ok (.aload_n 0, 1) := by decide +kernel
theorem dX7_setHome_6 : decode cX7_setHome 6 = .ok (.getfield 21, 3) := by decide +kernel
theorem dX7_setHome_9 : decode cX7_setHome 9 = .ok (.arraylength, 1) := by decide +kernel
theorem dX7_setHome_10 : decode cX7_setHome 10 = .ok (.if_icmp .ge 10, 3) := by decide +kernel
theorem dX7_setHome_13 : decode cX7_setHome 13 = .ok (.aload_n 0, 1) := by decide +kernel
theorem dX7_setHome_14 : decode cX7_setHome 14 = .ok (.getfield 21, 3) := by decide +kernel
theorem dX7_setHome_17 : decode cX7_setHome 17 = .ok (.iload_n 1, 1) := by decide +kernel
theorem dX7_setHome_18 : decode cX7_setHome 18 = .ok (.iload_n 2, 1) := by decide +kernel
theorem dX7_setHome_19 : decode cX7_setHome 19 = .ok (.iastore, 1) := by decide +kernel
theorem dX7_setHome_20 : decode cX7_setHome 20 = .ok (.return_, 1) := by decide +kernel
theorem dX7_settle_0 : decode cX7_settle 0 = .ok (.aload_n 0, 1) := by decide +kernel
theorem dX7_settle_1 : decode cX7_settle 1 = .ok (.getfield 30, 3) := by decide +kernel
theorem dX7_settle_4 : decode cX7_settle 4 = .ok (.sipush 512, 3) := by decide +kernel
theorem dX7_settle_7 : decode cX7_settle 7 = .ok (.if_icmp .ge 26, 3) := by decide +kernel
theorem dX7_settle_10 : decode cX7_settle 10 = .ok (.aload_n 0, 1) := by decide +kernel
theorem dX7_settle_11 : decode cX7_settle 11 = .ok (.dup, 1) := by decide +kernel
theorem dX7_settle_12 : decode cX7_settle 12 = .ok (.getfield 30, 3) := by decide +kernel
theorem dX7_settle_15 : decode cX7_settle 15 = .ok (.iconst 1, 1) := by decide +kernel
theorem dX7_settle_16 : decode cX7_settle 16 = .ok (.iadd, 1) := by decide +kernel
theorem dX7_settle_17 : decode cX7_settle 17 = .ok (.putfield 30, 3) := by decide +kernel
theorem dX7_settle_20 : decode cX7_settle 20 = .ok (.aload_n 0, 1) := by decide +kernel
theorem dX7_settle_21 : decode cX7_settle 21 = .ok (.aload_n 0, 1) := by decide +kernel
theorem dX7_settle_22 : decode cX7_settle 22 = .ok (.getfield 30, 3) := by decide +kernel
theorem dX7_settle_25 : decode cX7_settle 25 = .ok (.iconst 1, 1) := by decide +kernel
theorem dX7_settle_26 : decode cX7_settle 26 = .ok (.isub, 1) := by decide +kernel
theorem dX7_settle_27 : decode cX7_settle 27 = .ok (.iconst 0, 1) := by decide +kernel
theorem dX7_settle_28 : decode cX7_settle 28 = .ok (.iconst 0, 1) := by decide +kernel
theorem dX7_settle_29 : decode cX7_settle 29 = .ok (.iconst 0, 1) := by decide +kernel
theorem dX7_settle_30 : decode cX7_settle 30 = .ok (.invokevirtual 34, 3) := by decide +kernel
theorem dX7_settle_33 : decode cX7_settle 33 = .ok (.aload_n 0, 1) := by decide +kernel
theorem dX7_settle_34 : decode cX7_settle 34 = .ok (.getfield 30, 3) := by decide +kernel
theorem dX7_settle_37 : decode cX7_settle 37 = .ok (.iconst 1, 1) := by decide +kernel
theorem dX7_settle_38 : decode cX7_settle 38 = .ok (.isub, 1) := by decide +kernel
theorem dX7_settle_39 : decode cX7_settle 39 = .ok (.istore_n 2, 1) := by decide +kernel
theorem dX7_settle_40 : decode cX7_settle 40 = .ok (.aload_n 0, 1) := by decide +kernel
theorem dX7_settle_41 : decode cX7_settle 41 = .ok (.iload_n 2, 1) := by decide +kernel
theorem dX7_settle_42 : decode cX7_settle 42 = .ok (.invokevirtual 37, 3) := by decide +kernel
theorem dX7_settle_45 : decode cX7_settle 45 = .ok (.ifCond .eq 19, 3) := by decide +kernel
theorem dX7_settle_48 : decode cX7_settle 48 = .ok (.aload_n 0, 1) := by decide +kernel
theorem dX7_settle_49 : decode cX7_settle 49 = .ok (.getfield 9, 3) := by decide +kernel
theorem dX7_settle_52 : decode cX7_settle 52 = .ok (.iload_n 2, 1) := by decide +kernel
theorem dX7_settle_53 : decode cX7_settle 53 = .ok (.dup2, 1) := by decide +kernel
theorem dX7_settle_54 : decode cX7_settle 54 = .ok (.iaload, 1) := by decide +kernel
theorem dX7_settle_55 : decode cX7_settle 55 = .ok (.iconst 1, 1) := by decide +kernel
theorem dX7_settle_56 : decode cX7_settle 56 = .ok (.iadd, 1) := by decide +kernel
theorem dX7_settle_57 : decode cX7_settle 57 = .ok (.iastore, 1) := by decide +kernel
theorem dX7_settle_58 : decode cX7_settle 58 = .ok (.aload_n 0, 1) := by decide +kernel
theorem dX7_settle_59 : decode cX7_settle 59 = .ok (.iload_n 1, 1) := by decide +kernel
theorem dX7_settle_60 : decode cX7_settle 60 = .ok (.iload_n 2, 1) := by decide +kernel
theorem dX7_settle_61 : decode cX7_settle 61 = .ok (.invokevirtual 41, 3) := by decide +kernel
theorem dX7_settle_64 : decode cX7_settle 64 = .ok (.return_, 1) := by decide +kernel
theorem dX7_fill_0 : decode cX7_fill 0 = .ok (.aload_n 0, 1) := by decide +kernel
theorem dX7_fill_1 : decode cX7_fill 1 = .ok (.iload_n 1, 1) := by decide +kernel
theorem dX7_fill_2 : decode cX7_fill 2 = .ok (.invokevirtual 37, 3) := by decide +kernel
theorem dX7_fill_5 : decode cX7_fill 5 = .ok (.ifCond .eq 25, 3) := by decide +kernel
theorem dX7_fill_8 : decode cX7_fill 8 = .ok (.aload_n 0, 1) := by decide +kernel
theorem dX7_fill_9 : decode cX7_fill 9 = .ok (.getfield 9, 3) := by decide +kernel
theorem dX7_fill_12 : decode cX7_fill 12 = .ok (.iload_n 1, 1) := by decide +kernel
theorem dX7_fill_13 : decode cX7_fill 13 = .ok (.iload_n 2, 1) := by decide +kernel
theorem dX7_fill_14 : decode cX7_fill 14 = .ok (.iastore, 1) := by decide +kernel
theorem dX7_fill_15 : decode cX7_fill 15 = .ok (.aload_n 0, 1) := by decide +kernel
theorem dX7_fill_16 : decode cX7_fill 16 = .ok (.getfield 15, 3) := by decide +kernel
theorem dX7_fill_19 : decode cX7_fill 19 = .ok (.iload_n 1, 1) := by decide +kernel
theorem dX7_fill_20 : decode cX7_fill 20 = .ok (.iload_n 3, 1) := by decide +kernel
theorem dX7_fill_21 : decode cX7_fill 21 = .ok (.iastore, 1) := by decide +kernel
theorem dX7_fill_22 : decode cX7_fill 22 = .ok (.aload_n 0, 1) := by decide +kernel
theorem dX7_fill_23 : decode cX7_fill 23 = .ok (.getfield 18, 3) := by decide +kernel
theorem dX7_fill_26 : decode cX7_fill 26 = .ok (.iload_n 1, 1) := by decide +kernel
theorem dX7_fill_27 : decode cX7_fill 27 = .ok (.iload 4, 2) := by decide +kernel
theorem dX7_fill_29 : decode cX7_fill 29 = .ok (.iastore, 1) := by decide +kernel
theorem dX7_fill_30 : decode cX7_fill 30 = .ok (.return_, 1) := by decide +kernel
theorem dX7_bury_0 : decode cX7_bury 0 = .ok (.aload_n 0, 1) := by decide +kernel
theorem dX7_bury_1 : decode cX7_bury 1 = .ok (.iload_n 1, 1) := by decide +kernel
theorem dX7_bury_2 : decode cX7_bury 2 = .ok (.invokevirtual 45, 3) := by decide +kernel
theorem dX7_bury_5 : decode cX7_bury 5 = .ok (.istore_n 3, 1) := by decide +kernel
theorem dX7_bury_6 : decode cX7_bury 6 = .ok (.aload_n 0, 1) := by decide +kernel
theorem dX7_bury_7 : decode cX7_bury 7 = .ok (.iload_n 3, 1) := by decide +kernel
theorem dX7_bury_8 : decode cX7_bury 8 = .ok (.invokevirtual 37, 3) := by decide +kernel
theorem dX7_bury_11 : decode cX7_bury 11 = .ok (.ifCond .eq 33, 3) := by decide +kernel
theorem dX7_bury_14 : decode cX7_bury 14 = .ok (.aload_n 0, 1) := by decide +kernel
theorem dX7_bury_15 : decode cX7_bury 15 = .ok (.getfield 9, 3) := by decide +kernel
theorem dX7_bury_18 : decode cX7_bury 18 = .ok (.iload_n 3, 1) := by decide +kernel
theorem dX7_bury_19 : decode cX7_bury 19 = .ok (.dup2, 1) := by decide +kernel
theorem dX7_bury_20 : decode cX7_bury 20 = .ok (.iaload, 1) := by decide +kernel
theorem dX7_bury_21 : decode cX7_bury 21 = .ok (.iconst 1, 1) := by decide +kernel
theorem dX7_bury_22 : decode cX7_bury 22 = .ok (.isub, 1) := by decide +kernel
theorem dX7_bury_23 : decode cX7_bury 23 = .ok (.iastore, 1) := by decide +kernel
theorem dX7_bury_24 : decode cX7_bury 24 = .ok (.aload_n 0, 1) := by decide +kernel
theorem dX7_bury_25 : decode cX7_bury 25 = .ok (.getfield 15, 3) := by decide +kernel
theorem dX7_bury_28 : decode cX7_bury 28 = .ok (.iload_n 3, 1) := by decide +kernel
theorem dX7_bury_29 : decode cX7_bury 29 = .ok (.dup2, 1) := by decide +kernel
theorem dX7_bury_30 : decode cX7_bury 30 = .ok (.iaload, 1) := by decide +kernel
theorem dX7_bury_31 : decode cX7_bury 31 = .ok (.iconst 1, 1) := by decide +kernel
theorem dX7_bury_32 : decode cX7_bury 32 = .ok (.iadd, 1) := by decide +kernel
theorem dX7_bury_33 : decode cX7_bury 33 = .ok (.iastore, 1) := by decide +kernel
theorem dX7_bury_34 : decode cX7_bury 34 = .ok (.aload_n 0, 1) := by decide +kernel
theorem dX7_bury_35 : decode cX7_bury 35 = .ok (.getfield 18, 3) := by decide +kernel
theorem dX7_bury_38 : decode cX7_bury 38 = .ok (.iload_n 3, 1) := by decide +kernel
theorem dX7_bury_39 : decode cX7_bury 39 = .ok (.dup2, 1) := by decide +kernel
theorem dX7_bury_40 : decode cX7_bury 40 = .ok (.iaload, 1) := by decide +kernel
theorem dX7_bury_41 : decode cX7_bury 41 = .ok (.iload_n 2, 1) := by decide +kernel
theorem dX7_bury_42 : decode cX7_bury 42 = .ok (.iadd, 1) := by decide +kernel
theorem dX7_bury_43 : decode cX7_bury 43 = .ok (.iastore, 1) := by decide +kernel
theorem dX7_bury_44 : decode cX7_bury 44 = .ok (.aload_n 0, 1) := by decide +kernel
theorem dX7_bury_45 : decode cX7_bury 45 = .ok (.iload_n 1, 1) := by decide +kernel
theorem dX7_bury_46 : decode cX7_bury 46 = .ok (.iconst (-1), 1) := by decide +kernel
theorem dX7_bury_47 : decode cX7_bury 47 = .ok (.invokevirtual 41, 3) := by decide +kernel
theorem dX7_bury_50 : decode cX7_bury 50 = .ok (.return_, 1) := by decide +kernel
theorem dX7_livingAt_0 : decode cX7_livingAt 0 = .ok (.aload_n 0, 1) := by decide +kernel
theorem dX7_livingAt_1 : decode cX7_livingAt 1 = .ok (.iload_n 1, 1) := by decide +kernel
theorem dX7_livingAt_2 : decode cX7_livingAt 2 = .ok (.invokevirtual 37, 3) := by decide +kernel
theorem dX7_livingAt_5 : decode cX7_livingAt 5 = .ok (.ifCond .eq 12, 3) := by decide +kernel
theorem dX7_livingAt_8 : decode cX7_livingAt 8 = .ok (.aload_n 0, 1) := by decide +kernel
theorem dX7_livingAt_9 : decode cX7_livingAt 9 = .ok (.getfield 9, 3) := by decide +kernel
theorem dX7_livingAt_12 : decode cX7_livingAt 12 = .ok (.iload_n 1, 1) := by decide +kernel
theorem dX7_livingAt_13 : decode cX7_livingAt 13 = .ok (.iaload, 1) := by decide +kernel
theorem dX7_livingAt_14 : decode cX7_livingAt 14 = .ok (.goto 4, 3) := by decide +kernel
theorem dX7_livingAt_17 : decode cX7_livingAt 17 = .ok (.iconst 0, 1) := by decide +kernel
theorem dX7_livingAt_18 : decode cX7_livingAt 18 = .ok (.ireturn, 1) := by decide +kernel
theorem dX7_houses_0 : decode cX7_houses 0 = .ok (.iconst 0, 1) := by decide +kernel
theorem dX7_houses_1 : decode cX7_houses 1 = .ok (.istore_n 2, 1) := by decide +kernel
theorem dX7_houses_2 : decode cX7_houses 2 = .ok (.iconst 0, 1) := by decide +kernel
theorem dX7_houses_3 : decode cX7_houses 3 = .ok (.istore_n 3, 1) := by decide +kernel
theorem dX7_houses_4 : decode cX7_houses 4 = .ok (.iload_n 3, 1) := by decide +kernel
theorem dX7_houses_5 : decode cX7_houses 5 = .ok (.aload_n 0, 1) := by decide +kernel
theorem dX7_houses_6 : decode cX7_houses 6 = .ok (.getfield 30, 3) := by decide +kernel
theorem dX7_houses_9 : decode cX7_houses 9 = .ok (.if_icmp .ge 17, 3) := by decide +kernel
theorem dX7_houses_12 : decode cX7_houses 12 = .ok (.iload_n 2, 1) := by decide +kernel
theorem dX7_houses_13 : decode cX7_houses 13 = .ok (.aload_n 0, 1) := by decide +kernel
theorem dX7_houses_14 : decode cX7_houses 14 = .ok (.iload_n 3, 1) := by decide +kernel
theorem dX7_houses_15 : decode cX7_houses 15 = .ok (.invokevirtual 52, 3) := by decide +kernel
theorem dX7_houses_18 : decode cX7_houses 18 = .ok (.iadd, 1) := by decide +kernel
theorem dX7_houses_19 : decode cX7_houses 19 = .ok (.istore_n 2, 1) := by decide +kernel
theorem dX7_houses_20 : decode cX7_houses 20 = .ok (.iinc 3 1, 3) := by decide +kernel
theorem dX7_houses_23 : decode cX7_houses 23 = .ok (.goto (-19), 3) := by decide +kernel
theorem dX7_houses_26 : decode cX7_houses 26 = .ok (.iconst 0, 1) := by decide +kernel
theorem dX7_houses_27 : decode cX7_houses 27 = .ok (.istore_n 3, 1) := by decide +kernel
theorem dX7_houses_28 : decode cX7_houses 28 = .ok (.iload_n 3, 1) := by decide +kernel
theorem dX7_houses_29 : decode cX7_houses 29 = .ok (.aload_n 1, 1) := by decide +kernel
theorem dX7_houses_30 : decode cX7_houses 30 = .ok (.invokevirtual 71, 3) := by decide +kernel
theorem dX7_houses_33 : decode cX7_houses 33 = .ok (.if_icmp .ge 27, 3) := by decide +kernel
theorem dX7_houses_36 : decode cX7_houses 36 = .ok (.aload_n 0, 1) := by decide +kernel
theorem dX7_houses_37 : decode cX7_houses 37 = .ok (.aload_n 0, 1) := by decide +kernel
theorem dX7_houses_38 : decode cX7_houses 38 = .ok (.aload_n 1, 1) := by decide +kernel
theorem dX7_houses_39 : decode cX7_houses 39 = .ok (.iload_n 3, 1) := by decide +kernel
theorem dX7_houses_40 : decode cX7_houses 40 = .ok (.invokevirtual 76, 3) := by decide +kernel
theorem dX7_houses_43 : decode cX7_houses 43 = .ok (.invokevirtual 45, 3) := by decide +kernel
theorem dX7_houses_46 : decode cX7_houses 46 = .ok (.invokevirtual 37, 3) := by decide +kernel
theorem dX7_houses_49 : decode cX7_houses 49 = .ok (.ifCond .ne 5, 3) := by decide +kernel
theorem dX7_houses_52 : decode cX7_houses 52 = .ok (.iconst 0, 1) := by decide +kernel
theorem dX7_houses_53 : decode cX7_houses 53 = .ok (.ireturn, 1) := by decide +kernel
theorem dX7_houses_54 : decode cX7_houses 54 = .ok (.iinc 3 1, 3) := by decide +kernel
theorem dX7_houses_57 : decode cX7_houses 57 = .ok (.goto (-29), 3) := by decide +kernel
theorem dX7_houses_60 : decode cX7_houses 60 = .ok (.iload_n 2, 1) := by decide +kernel
theorem dX7_houses_61 : decode cX7_houses 61 = .ok (.aload_n 1, 1) := by decide +kernel
theorem dX7_houses_62 : decode cX7_houses 62 = .ok (.invokevirtual 71, 3) := by decide +kernel
theorem dX7_houses_65 : decode cX7_houses 65 = .ok (.if_icmp .ne 7, 3) := by decide +kernel
theorem dX7_houses_68 : decode cX7_houses 68 = .ok (.iconst 1, 1) := by decide +kernel
theorem dX7_houses_69 : decode cX7_houses 69 = .ok (.goto 4, 3) := by decide +kernel
theorem dX7_houses_72 : decode cX7_houses 72 = .ok (.iconst 0, 1) := by decide +kernel
theorem dX7_houses_73 : decode cX7_houses 73 = .ok (.ireturn, 1) := by decide +kernel
theorem dX8_init_0 : decode cX8_init 0 = .ok (.aload_n 0, 1) := by decide +kernel
theorem dX8_init_1 : decode cX8_init 1 = .ok (.invokespecial 3, 3) := by decide +kernel
theorem dX8_init_4 : decode cX8_init 4 = .ok (.aload_n 0, 1) := by decide +kernel
theorem dX8_init_5 : decode cX8_init 5 = .ok (.bipush 12, 2) := by decide +kernel
theorem dX8_init_7 : decode cX8_init 7 = .ok (.newarray .int, 2) := by decide +kernel
theorem dX8_init_9 : decode cX8_init 9 = .ok (.putfield 9, 3) := by decide +kernel
theorem dX8_init_12 : decode cX8_init 12 = .ok (.aload_n 0, 1) := by decide +kernel
theorem dX8_init_13 : decode cX8_init 13 = .ok (.bipush 12, 2) := by decide +kernel
theorem dX8_init_15 : decode cX8_init 15 = .ok (.newarray .int, 2) := by decide +kernel
theorem dX8_init_17 : decode cX8_init 17 = .ok (.putfield 15, 3) := by decide +kernel
theorem dX8_init_20 : decode cX8_init 20 = .ok (.aload_n 0, 1) := by decide +kernel
theorem dX8_init_21 : decode cX8_init 21 = .ok (.sipush 480, 3) := by decide +kernel
theorem dX8_init_24 : decode cX8_init 24 = .ok (.newarray .char, 2) := by decide +kernel
theorem dX8_init_26 : decode cX8_init 26 = .ok (.putfield 18, 3) := by decide +kernel
theorem dX8_init_29 : decode cX8_init 29 = .ok (.return_, 1) := by decide +kernel
theorem dX8_many_0 : decode cX8_many 0 = .ok (.aload_n 0, 1) := by decide +kernel
theorem dX8_many_1 : decode cX8_many 1 = .ok (.getfield 22, 3) := by decide +kernel
theorem dX8_many_4 : decode cX8_many 4 = .ok (.ireturn, 1) := by decide +kernel
theorem dX8_isSlot_0 : decode cX8_isSlot 0 = .ok (.iload_n 1, 1) := by decide +kernel
theorem dX8_isSlot_1 : decode cX8_isSlot 1 = .ok (.ifCond .lt 21, 3) := by decide +kernel
theorem dX8_isSlot_4 : decode cX8_isSlot 4 = .ok (.iload_n 1, 1) := by decide +kernel
theorem dX8_isSlot_5 : decode cX8_isSlot 5 = .ok (.aload_n 0, 1) := by decide +kernel
theorem dX8_isSlot_6 : decode cX8_isSlot 6 = .ok (.getfield 22, 3) := by decide +kernel
theorem dX8_isSlot_9 : decode cX8_isSlot 9 = .ok (.if_icmp .ge 13, 3) := by decide +kernel
theorem dX8_isSlot_12 : decode cX8_isSlot 12 = .ok (.iload_n 1, 1) := by decide +kernel
theorem dX8_isSlot_13 : decode cX8_isSlot 13 = .ok (.bipush 12, 2) := by decide +kernel
theorem dX8_isSlot_15 : decode cX8_isSlot 15 = .ok (.if_icmp .ge 7, 3) := by decide +kernel
theorem dX8_isSlot_18 : decode cX8_isSlot 18 = .ok (.iconst 1, 1) := by decide +kernel
theorem dX8_isSlot_19 : decode cX8_isSlot 19 = .ok (.goto 4, 3) := by decide +kernel
theorem dX8_isSlot_22 : decode cX8_isSlot 22 = .ok (.iconst 0, 1) := by decide +kernel
theorem dX8_isSlot_23 : decode cX8_isSlot 23 = .ok (.ireturn, 1) := by decide +kernel
theorem dX8_slotOf_0 : decode cX8_slotOf 0 = .ok (.iconst 0, 1) := by decide +kernel
theorem dX8_slotOf_1 : decode cX8_slotOf 1 = .ok (.istore_n 2, 1) := by decide +kernel
theorem dX8_slotOf_2 : decode cX8_slotOf 2 = .ok (.iload_n 2, 1) := by decide +kernel
theorem dX8_slotOf_3 : decode cX8_slotOf 3 = .ok (.aload_n 0, 1) := by decide +kernel
theorem dX8_slotOf_4 : decode cX8_slotOf 4 = .ok (.getfield 22, 3) := by decide +kernel
theorem dX8_slotOf_7 : decode cX8_slotOf 7 = .ok (.if_icmp .ge 20, 3) := by decide +kernel
theorem dX8_slotOf_10 : decode cX8_slotOf 10 = .ok (.aload_n 0, 1) := by decide +kernel
theorem dX8_slotOf_11 : decode cX8_slotOf 11 = .ok (.iload_n 2, 1) := by decide +kernel
theorem dX8_slotOf_12 : decode cX8_slotOf 12 = .ok (.invokevirtual 26, 3) := by decide +kernel
theorem dX8_slotOf_15 : decode cX8_slotOf 15 = .ok (.iload_n 1, 1) := by decide +kernel
theorem dX8_slotOf_16 : decode cX8_slotOf 16 = .ok (.if_icmp .ne 5, 3) := by decide +kernel
theorem dX8_slotOf_19 : decode cX8_slotOf 19 = .ok (.iload_n 2, 1) := by decide +kernel
theorem dX8_slotOf_20 : decode cX8_slotOf 20 = .ok (.ireturn, 1) := by decide +kernel
theorem dX8_slotOf_21 : decode cX8_slotOf 21 = .ok (.iinc 2 1, 3) := by decide +kernel
theorem dX8_slotOf_24 : decode cX8_slotOf 24 = .ok (.goto (-22), 3) := by decide +kernel
theorem dX8_slotOf_27 : decode cX8_slotOf 27 = .ok (.iconst (-1), 1) := by decide +kernel
theorem dX8_slotOf_28 : decode cX8_slotOf 28 = .ok (.ireturn, 1) := by decide +kernel
theorem dX8_numberAt_0 : decode cX8_numberAt 0 = .ok (.aload_n 0, 1) := by decide +kernel
theorem dX8_numberAt_1 : decode cX8_numberAt 1 = .ok (.iload_n 1, 1) := by decide +kernel
theorem dX8_numberAt_2 : decode cX8_numberAt 2 = .ok (.invokevirtual 30, 3) := by decide +kernel
theorem dX8_numberAt_5 : decode cX8_numberAt 5 = .ok (.ifCond .eq 12, 3) := by decide +kernel
theorem dX8_numberAt_8 : decode cX8_numberAt 8 = .ok (.aload_n 0, 1) := by decide +kernel
theorem dX8_numberAt_9 : decode cX8_numberAt 9 = .ok (.getfield 9, 3) := by decide +kernel
theorem dX8_numberAt_12 : decode cX8_numberAt 12 = .ok (.iload_n 1, 1) := by decide +kernel
theorem dX8_numberAt_13 : decode cX8_numberAt 13 = .ok (.iaload, 1) := by decide +kernel
theorem dX8_numberAt_14 : decode cX8_numberAt 14 = .ok (.goto 4, 3) := by decide +kernel
theorem dX8_numberAt_17 : decode cX8_numberAt 17 = .ok (.iconst (-1), 1) := by decide +kernel
theorem dX8_numberAt_18 : decode cX8_numberAt 18 = .ok (.ireturn, 1) := by decide +kernel
theorem dX8_sizeAt_0 : decode cX8_sizeAt 0 = .ok (.aload_n 0, 1) := by decide +kernel
theorem dX8_sizeAt_1 : decode cX8_sizeAt 1 = .ok (.iload_n 1, 1) := by decide +kernel
theorem dX8_sizeAt_2 : decode cX8_sizeAt 2 = .ok (.invokevirtual 30, 3) := by decide +kernel
theorem dX8_sizeAt_5 : decode cX8_sizeAt 5 = .ok (.ifCond .eq 12, 3) := by decide +kernel
theorem dX8_sizeAt_8 : decode cX8_sizeAt 8 = .ok (.aload_n 0, 1) := by decide +kernel
theorem dX8_sizeAt_9 : decode cX8_sizeAt 9 = .ok (.getfield 15, 3) := by decide +kernel
theorem dX8_sizeAt_12 : decode cX8_sizeAt 12 = .ok (.iload_n 1, 1) := by decide +kernel
theorem dX8_sizeAt_13 : decode cX8_sizeAt 13 = .ok (.iaload, 1) := by decide +kernel
theorem dX8_sizeAt_14 : decode cX8_sizeAt 14 = .ok (.goto 4, 3) := by decide +kernel
theorem dX8_sizeAt_17 : decode cX8_sizeAt 17 = .ok (.iconst 0, 1) := by decide +kernel
theorem dX8_sizeAt_18 : decode cX8_sizeAt 18 = .ok (.ireturn, 1) := by decide +kernel
theorem dX8_letter_0 : decode cX8_letter 0 = .ok (.iload_n 1, 1) := by decide +kernel
theorem dX8_letter_1 : decode cX8_letter 1 = .ok (.ifCond .lt 31, 3) := by decide +kernel
theorem dX8_letter_4 : decode cX8_letter 4 = .ok (.iload_n 1, 1) := by decide +kernel
theorem dX8_letter_5 : decode cX8_letter 5 = .ok (.aload_n 0, 1) := by decide +kernel
theorem dX8_letter_6 : decode cX8_letter 6 = .ok (.getfield 22, 3) := by decide +kernel
theorem dX8_letter_9 : decode cX8_letter 9 = .ok (.if_icmp .ge 23, 3) := by decide +kernel
theorem dX8_letter_12 : decode cX8_letter 12 = .ok (.iload_n 1, 1) := by decide +kernel
theorem dX8_letter_13 : decode cX8_letter 13 = .ok (.bipush 12, 2) := by decide +kernel
theorem dX8_letter_15 : decode cX8_letter 15 = .ok (.if_icmp .ge 17, 3) := by decide +kernel
theorem dX8_letter_18 : decode cX8_letter 18 = .ok (.iload_n 2, 1) := by decide +kernel
theorem dX8_letter_19 : decode cX8_letter 19 = .ok (.ifCond .lt 13, 3) := by decide +kernel
theorem dX8_letter_22 : decode cX8_letter 22 = .ok (.iload_n 2, 1) := by decide +kernel
theorem dX8_letter_23 : decode cX8_letter 23 = .ok (.aload_n 0, 1) := by decide +kernel
theorem dX8_letter_24 : decode cX8_letter 24 = .ok (.getfield 15, 3) := by decide +kernel
theorem dX8_letter_27 : decode cX8_letter 27 = .ok (.iload_n 1, 1) := by decide +kernel
theorem dX8_letter_28 : decode cX8_letter 28 = .ok (.iaload, 1) := by decide +kernel
theorem dX8_letter_29 : decode cX8_letter 29 = .ok (.if_icmp .lt 5, 3) := by decide +kernel
theorem dX8_letter_32 : decode cX8_letter 32 = .ok (.iconst 0, 1) := by decide +kernel
theorem dX8_letter_33 : decode cX8_letter 33 = .ok (.ireturn, 1) := by decide +kernel
theorem dX8_letter_34 : decode cX8_letter 34 = .ok (.iload_n 2, 1) := by decide +kernel
theorem dX8_letter_35 : decode cX8_letter 35 = .ok (.bipush 40, 2) := by decide +kernel
theorem dX8_letter_37 : decode cX8_letter 37 = .ok (.if_icmp .ge 17, 3) := by decide +kernel
theorem dX8_letter_40 : decode cX8_letter 40 = .ok (.aload_n 0, 1) := by decide +kernel
theorem dX8_letter_41 : decode cX8_letter 41 = .ok (.getfield 18, 3) := by decide +kernel
theorem dX8_letter_44 : decode cX8_letter 44 = .ok (.iload_n 1, 1) := by decide +kernel
theorem dX8_letter_45 : decode cX8_letter 45 = .ok (.bipush 40, 2) := by decide +kernel
theorem dX8_letter_47 : decode cX8_letter 47 = .ok (.imul, 1) := by decide +kernel
theorem dX8_letter_48 : decode cX8_letter 48 = .ok (.iload_n 2, 1) := by decide +kernel
theorem dX8_letter_49 : decode cX8_letter 49 = .ok (.iadd, 1) := by decide +kernel
theorem dX8_letter_50 : decode cX8_letter 50 = .ok (.caload, 1) := by decide +kernel
theorem dX8_letter_51 : decode cX8_letter 51 = .ok (.goto 4, 3) := by decide +kernel
theorem dX8_letter_54 : decode cX8_letter 54 = .ok (.iconst 0, 1) := by decide +kernel
theorem dX8_letter_55 : decode cX8_letter 55 = .ok (.ireturn, 1) := by decide +kernel
theorem dX8_places_0 : decode cX8_places 0 = .ok (.iconst 0, 1) := by decide +kernel
theorem dX8_places_1 : decode cX8_places 1 = .ok (.istore_n 1, 1) := by decide +kernel
theorem dX8_places_2 : decode cX8_places 2 = .ok (.iconst 0, 1) := by decide +kernel
theorem dX8_places_3 : decode cX8_places 3 = .ok (.istore_n 2, 1) := by decide +kernel
theorem dX8_places_4 : decode cX8_places 4 = .ok (.iload_n 2, 1) := by decide +kernel
theorem dX8_places_5 : decode cX8_places 5 = .ok (.aload_n 0, 1) := by decide +kernel
theorem dX8_places_6 : decode cX8_places 6 = .ok (.getfield 22, 3) := by decide +kernel
theorem dX8_places_9 : decode cX8_places 9 = .ok (.if_icmp .ge 17, 3) := by decide +kernel
theorem dX8_places_12 : decode cX8_places 12 = .ok (.iload_n 1, 1) := by decide +kernel
theorem dX8_places_13 : decode cX8_places 13 = .ok (.aload_n 0, 1) := by decide +kernel
theorem dX8_places_14 : decode cX8_places 14 = .ok (.iload_n 2, 1) := by decide +kernel
theorem dX8_places_15 : decode cX8_places 15 = .ok (.invokevirtual 34, 3) := by decide +kernel
theorem dX8_places_18 : decode cX8_places 18 = .ok (.iadd, 1) := by decide +kernel
theorem dX8_places_19 : decode cX8_places 19 = .ok (.istore_n 1, 1) := by decide +kernel
theorem dX8_places_20 : decode cX8_places 20 = .ok (.iinc 2 1, 3) := by decide +kernel
theorem dX8_places_23 : decode cX8_places 23 = .ok (.goto (-19), 3) := by decide +kernel
theorem dX8_places_26 : decode cX8_places 26 = .ok (.iload_n 1, 1) := by decide +kernel
theorem dX8_places_27 : decode cX8_places 27 = .ok (.ireturn, 1) := by decide +kernel
theorem dX8_append_0 : decode cX8_append 0 = .ok (.aload_n 0, 1) := by decide +kernel
theorem dX8_append_1 : decode cX8_append 1 = .ok (.getfield 22, 3) := by decide +kernel
theorem dX8_append_4 : decode cX8_append 4 = .ok (.ifCond .lt 12, 3) := by decide +kernel
theorem dX8_append_7 : decode cX8_append 7 = .ok (.aload_n 0, 1) := by decide +kernel
theorem dX8_append_8 : decode cX8_append 8 = .ok (.getfield 22, 3) := by decide +kernel
theorem dX8_append_11 : decode cX8_append 11 = .ok (.bipush 12, 2) := by decide +kernel
theorem dX8_append_13 : decode cX8_append 13 = .ok (.if_icmp .lt 4, 3) := by decide +kernel
theorem dX8_append_16 : decode cX8_append 16 = .ok (.return_, 1) := by decide +kernel
theorem dX8_append_17 : decode cX8_append 17 = .ok (.aload_n 0, 1) := by decide +kernel
theorem dX8_append_18 : decode cX8_append 18 = .ok (.getfield 9, 3) := by decide +kernel
theorem dX8_append_21 : decode cX8_append 21 = .ok (.aload_n 0, 1) := by decide +kernel
theorem dX8_append_22 : decode cX8_append 22 = .ok (.getfield 22, 3) := by decide +kernel
theorem dX8_append_25 : decode cX8_append 25 = .ok (.iload_n 1, 1) := by decide +kernel
theorem dX8_append_26 : decode cX8_append 26 = .ok (.iastore, 1) := by decide +kernel
theorem dX8_append_27 : decode cX8_append 27 = .ok (.aload_n 0, 1) := by decide +kernel
theorem dX8_append_28 : decode cX8_append 28 = .ok (.getfield 15, 3) := by decide +kernel
theorem dX8_append_31 : decode cX8_append 31 = .ok (.aload_n 0, 1) := by decide +kernel
theorem dX8_append_32 : decode cX8_append 32 = .ok (.getfield 22, 3) := by decide +kernel
theorem dX8_append_35 : decode cX8_append 35 = .ok (.iconst 0, 1) := by decide +kernel
theorem dX8_append_36 : decode cX8_append 36 = .ok (.iastore, 1) := by decide +kernel
theorem dX8_append_37 : decode cX8_append 37 = .ok (.aload_n 0, 1) := by decide +kernel
theorem dX8_append_38 : decode cX8_append 38 = .ok (.dup, 1) := by decide +kernel
theorem dX8_append_39 : decode cX8_append 39 = .ok (.getfield 22, 3) := by decide +kernel
theorem dX8_append_42 : decode cX8_append 42 = .ok (.iconst 1, 1) := by decide +kernel
theorem dX8_append_43 : decode cX8_append 43 = .ok (.iadd, 1) := by decide +kernel
theorem dX8_append_44 : decode cX8_append 44 = .ok (.putfield 22, 3) := by decide +kernel
theorem dX8_append_47 : decode cX8_append 47 = .ok (.aload_n 0, 1) := by decide +kernel
theorem dX8_append_48 : decode cX8_append 48 = .ok (.aload_n 0, 1) := by decide +kernel
theorem dX8_append_49 : decode cX8_append 49 = .ok (.getfield 22, 3) := by decide +kernel
theorem dX8_append_52 : decode cX8_append 52 = .ok (.iconst 1, 1) := by decide +kernel
theorem dX8_append_53 : decode cX8_append 53 = .ok (.isub, 1) := by decide +kernel
theorem dX8_append_54 : decode cX8_append 54 = .ok (.iconst 0, 1) := by decide +kernel
theorem dX8_append_55 : decode cX8_append 55 = .ok (.aload_n 2, 1) := by decide +kernel
theorem dX8_append_56 : decode cX8_append 56 = .ok (.invokevirtual 37, 3) := by decide +kernel
theorem dX8_append_59 : decode cX8_append 59 = .ok (.return_, 1) := by decide +kernel
theorem dX8_widen_0 : decode cX8_widen 0 = .ok (.aload_n 0, 1) := by decide +kernel
theorem dX8_widen_1 : decode cX8_widen 1 = .ok (.iload_n 1, 1) := by decide +kernel
theorem dX8_widen_2 : decode cX8_widen 2 = .ok (.invokevirtual 34, 3) := by decide +kernel
theorem dX8_widen_5 : decode cX8_widen 5 = .ok (.istore 4, 2) := by decide +kernel
theorem dX8_widen_7 : decode cX8_widen 7 = .ok (.aload_n 3, 1) := by decide +kernel
theorem dX8_widen_8 : decode cX8_widen 8 = .ok (.invokevirtual 41, 3) := by decide +kernel
theorem dX8_widen_11 : decode cX8_widen 11 = .ok (.istore 5, 2) := by decide +kernel
theorem dX8_widen_13 : decode cX8_widen 13 = .ok (.aload_n 0, 1) := by decide +kernel
theorem dX8_widen_14 : decode cX8_widen 14 = .ok (.iload_n 1, 1) := by decide +kernel
theorem dX8_widen_15 : decode cX8_widen 15 = .ok (.invokevirtual 30, 3) := by decide +kernel
theorem dX8_widen_18 : decode cX8_widen 18 = .ok (.ifCond .eq 23, 3) := by decide +kernel
theorem dX8_widen_21 : decode cX8_widen 21 = .ok (.iload_n 2, 1) := by decide +kernel
theorem dX8_widen_22 : decode cX8_widen 22 = .ok (.ifCond .lt 19, 3) := by decide +kernel
theorem dX8_widen_25 : decode cX8_widen 25 = .ok (.iload_n 2, 1) := by decide +kernel
theorem dX8_widen_26 : decode cX8_widen 26 = .ok (.iload 4, 2) := by decide +kernel
theorem dX8_widen_28 : decode cX8_widen 28 = .ok (.if_icmp .gt 13, 3) := by decide +kernel
theorem dX8_widen_31 : decode cX8_widen 31 = .ok (.iload 4, 2) := by decide +kernel
theorem dX8_widen_33 : decode cX8_widen 33 = .ok (.iload 5, 2) := by decide +kernel
theorem dX8_widen_35 : decode cX8_widen 35 = .ok (.iadd, 1) := by decide +kernel
theorem dX8_widen_36 : decode cX8_widen 36 = .ok (.bipush 40, 2) := by decide +kernel
theorem dX8_widen_38 : decode cX8_widen 38 = .ok (.if_icmp .le 4, 3) := by decide +kernel
theorem dX8_widen_41 : decode cX8_widen 41 = .ok (.return_, 1) := by decide +kernel
theorem dX8_widen_42 : decode cX8_widen 42 = .ok (.iload_n 1, 1) := by decide +kernel
theorem dX8_widen_43 : decode cX8_widen 43 = .ok (.bipush 40, 2) := by decide +kernel
theorem dX8_widen_45 : decode cX8_widen 45 = .ok (.imul, 1) := by decide +kernel
theorem dX8_widen_46 : decode cX8_widen 46 = .ok (.istore 6, 2) := by decide +kernel
theorem dX8_widen_48 : decode cX8_widen 48 = .ok (.aload_n 0, 1) := by decide +kernel
theorem dX8_widen_49 : decode cX8_widen 49 = .ok (.getfield 18, 3) := by decide +kernel
theorem dX8_widen_52 : decode cX8_widen 52 = .ok (.iload 6, 2) := by decide +kernel
theorem dX8_widen_54 : decode cX8_widen 54 = .ok (.iload_n 2, 1) := by decide +kernel
theorem dX8_widen_55 : decode cX8_widen 55 = .ok (.iadd, 1) := by decide +kernel
theorem dX8_widen_56 : decode cX8_widen 56 = .ok (.aload_n 0, 1) := by decide +kernel
theorem dX8_widen_57 : decode cX8_widen 57 = .ok (.getfield 18, 3) := by decide +kernel
theorem dX8_widen_60 : decode cX8_widen 60 = .ok (.iload 6, 2) := by decide +kernel
theorem dX8_widen_62 : decode cX8_widen 62 = .ok (.iload_n 2, 1) := by decide +kernel
theorem dX8_widen_63 : decode cX8_widen 63 = .ok (.iadd, 1) := by decide +kernel
theorem dX8_widen_64 : decode cX8_widen 64 = .ok (.iload 5, 2) := by decide +kernel
theorem dX8_widen_66 : decode cX8_widen 66 = .ok (.iadd, 1) := by decide +kernel
theorem dX8_widen_67 : decode cX8_widen 67 = .ok (.iload 4, 2) := by decide +kernel
theorem dX8_widen_69 : decode cX8_widen 69 = .ok (.iload_n 2, 1) := by decide +kernel
theorem dX8_widen_70 : decode cX8_widen 70 = .ok (.isub, 1) := by decide +kernel
theorem dX8_widen_71 : decode cX8_widen 71 = .ok (.invokestatic 47, 3) := by decide +kernel
theorem dX8_widen_74 : decode cX8_widen 74 = .ok (.iconst 0, 1) := by decide +kernel
theorem dX8_widen_75 : decode cX8_widen 75 = .ok (.istore 7, 2) := by decide +kernel
theorem dX8_widen_77 : decode cX8_widen 77 = .ok (.iload 7, 2) := by decide +kernel
theorem dX8_widen_79 : decode cX8_widen 79 = .ok (.iload 5, 2) := by decide +kernel
theorem dX8_widen_81 : decode cX8_widen 81 = .ok (.if_icmp .ge 27, 3) := by decide +kernel
theorem dX8_widen_84 : decode cX8_widen 84 = .ok (.aload_n 0, 1) := by decide +kernel
theorem dX8_widen_85 : decode cX8_widen 85 = .ok (.getfield 18, 3) := by decide +kernel
theorem dX8_widen_88 : decode cX8_widen 88 = .ok (.iload 6, 2) := by decide +kernel
theorem dX8_widen_90 : decode cX8_widen 90 = .ok (.iload_n 2, 1) := by decide +kernel
theorem dX8_widen_91 : decode cX8_widen 91 = .ok (.iadd, 1) := by decide +kernel
theorem dX8_widen_92 : decode cX8_widen 92 = .ok (.iload 7, 2) := by decide +kernel
theorem dX8_widen_94 : decode cX8_widen 94 = .ok (.iadd, 1) := by decide +kernel
theorem dX8_widen_95 : decode cX8_widen 95 = .ok (.aload_n 3, 1) := by decide +kernel
theorem dX8_widen_96 : decode cX8_widen 96 = .ok (.iload 7, 2) := by decide +kernel
theorem dX8_widen_98 : decode cX8_widen 98 = .ok (.invokevirtual 53, 3) := by decide +kernel
theorem dX8_widen_101 : decode cX8_widen 101 = .ok (.castore, 1) := by decide +kernel
theorem dX8_widen_102 : decode cX8_widen 102 = .ok (.iinc 7 1, 3) := by decide +kernel
theorem dX8_widen_105 : decode cX8_widen 105 = .ok (.goto (-28), 3) := by decide +kernel
theorem dX8_widen_108 : decode cX8_widen 108 = .ok (.aload_n 0, 1) := by decide +kernel
theorem dX8_widen_109 : decode cX8_widen 109 = .ok (.getfield 15, 3) := by decide +kernel
theorem dX8_widen_112 : decode cX8_widen 112 = .ok (.iload_n 1, 1) := by decide +kernel
theorem dX8_widen_113 : decode cX8_widen 113 = .ok (.iload 4, 2) := by decide +kernel
theorem dX8_widen_115 : decode cX8_widen 115 = .ok (.iload 5, 2) := by decide +kernel
theorem dX8_widen_117 : decode cX8_widen 117 = .ok (.iadd, 1) := by decide +kernel
theorem dX8_widen_118 : decode cX8_widen 118 = .ok (.iastore, 1) := by decide +kernel
theorem dX8_widen_119 : decode cX8_widen 119 = .ok (.return_, 1) := by decide +kernel
theorem dX8_become_0 : decode cX8_become 0 = .ok (.aload_n 1, 1) := by decide +kernel
theorem dX8_become_1 : decode cX8_become 1 = .ok (.getfield 9, 3) := by decide +kernel
theorem dX8_become_4 : decode cX8_become 4 = .ok (.iconst 0, 1) := by decide +kernel
theorem dX8_become_5 : decode cX8_become 5 = .ok (.aload_n 0, 1) := by decide +kernel
theorem dX8_become_6 : decode cX8_become 6 = .ok (.getfield 9, 3) := by decide +kernel
theorem dX8_become_9 : decode cX8_become 9 = .ok (.iconst 0, 1) := by decide +kernel
theorem dX8_become_10 : decode cX8_become 10 = .ok (.bipush 12, 2) := by decide +kernel
theorem dX8_become_12 : decode cX8_become 12 = .ok (.invokestatic 47, 3) := by decide +kernel
theorem dX8_become_15 : decode cX8_become 15 = .ok (.aload_n 1, 1) := by decide +kernel
theorem dX8_become_16 : decode cX8_become 16 = .ok (.getfield 15, 3) := by decide +kernel
theorem dX8_become_19 : decode cX8_become 19 = .ok (.iconst 0, 1) := by decide +kernel
theorem dX8_become_20 : decode cX8_become 20 = .ok (.aload_n 0, 1) := by decide +kernel
theorem dX8_become_21 : decode cX8_become 21 = .ok (.getfield 15, 3) := by decide +kernel
theorem dX8_become_24 : decode cX8_become 24 = .ok (.iconst 0, 1) := by decide +kernel
theorem dX8_become_25 : decode cX8_become 25 = .ok (.bipush 12, 2) := by decide +kernel
theorem dX8_become_27 : decode cX8_become 27 = .ok (.invokestatic 47, 3) := by decide +kernel
theorem dX8_become_30 : decode cX8_become 30 = .ok (.aload_n 1, 1) := by decide +kernel
theorem dX8_become_31 : decode cX8_become 31 = .ok (.getfield 18, 3) := by decide +kernel
theorem dX8_become_34 : decode cX8_become 34 = .ok (.iconst 0, 1) := by decide +kernel
theorem dX8_become_35 : decode cX8_become 35 = .ok (.aload_n 0, 1) := by decide +kernel
theorem dX8_become_36 : decode cX8_become 36 = .ok (.getfield 18, 3) := by decide +kernel
theorem dX8_become_39 : decode cX8_become 39 = .ok (.iconst 0, 1) := by decide +kernel
theorem dX8_become_40 : decode cX8_become 40 = .ok (.sipush 480, 3) := by decide +kernel
theorem dX8_become_43 : decode cX8_become 43 = .ok (.invokestatic 47, 3) := by decide +kernel
theorem dX8_become_46 : decode cX8_become 46 = .ok (.aload_n 0, 1) := by decide +kernel
theorem dX8_become_47 : decode cX8_become 47 = .ok (.aload_n 1, 1) := by decide +kernel
theorem dX8_become_48 : decode cX8_become 48 = .ok (.getfield 22, 3) := by decide +kernel
theorem dX8_become_51 : decode cX8_become 51 = .ok (.putfield 22, 3) := by decide +kernel
theorem dX8_become_54 : decode cX8_become 54 = .ok (.return_, 1) := by decide +kernel
theorem dX8_shared_0 : decode cX8_shared 0 = .ok (.iconst 0, 1) := by decide +kernel
theorem dX8_shared_1 : decode cX8_shared 1 = .ok (.istore 5, 2) := by decide +kernel
theorem dX8_shared_3 : decode cX8_shared 3 = .ok (.iload 5, 2) := by decide +kernel
theorem dX8_shared_5 : decode cX8_shared 5 = .ok (.bipush 40, 2) := by decide +kernel
theorem dX8_shared_7 : decode cX8_shared 7 = .ok (.if_icmp .ge 43, 3) := by decide +kernel
theorem dX8_shared_10 : decode cX8_shared 10 = .ok (.aload_n 0, 1) := by decide +kernel
theorem dX8_shared_11 : decode cX8_shared 11 = .ok (.iload_n 1, 1) := by decide +kernel
theorem dX8_shared_12 : decode cX8_shared 12 = .ok (.iload_n 2, 1) := by decide +kernel
theorem dX8_shared_13 : decode cX8_shared 13 = .ok (.iload 5, 2) := by decide +kernel
theorem dX8_shared_15 : decode cX8_shared 15 = .ok (.iadd, 1) := by decide +kernel
theorem dX8_shared_16 : decode cX8_shared 16 = .ok (.invokevirtual 57, 3) := by decide +kernel
theorem dX8_shared_19 : decode cX8_shared 19 = .ok (.istore 6, 2) := by decide +kernel
theorem dX8_shared_21 : decode cX8_shared 21 = .ok (.iload 6, 2) := by decide +kernel
theorem dX8_shared_23 : decode cX8_shared 23 = .ok (.ifCond .eq 18, 3) := by decide +kernel
theorem dX8_shared_26 : decode cX8_shared 26 = .ok (.iload 6, 2) := by decide +kernel
theorem dX8_shared_28 : decode cX8_shared 28 = .ok (.aload_n 0, 1) := by decide +kernel
theorem dX8_shared_29 : decode cX8_shared 29 = .ok (.iload_n 3, 1) := by decide +kernel
theorem dX8_shared_30 : decode cX8_shared 30 = .ok (.iload 4, 2) := by decide +kernel
theorem dX8_shared_32 : decode cX8_shared 32 = .ok (.iload 5, 2) := by decide +kernel
theorem dX8_shared_34 : decode cX8_shared 34 = .ok (.iadd, 1) := by decide +kernel
theorem dX8_shared_35 : decode cX8_shared 35 = .ok (.invokevirtual 57, 3) := by decide +kernel
theorem dX8_shared_38 : decode cX8_shared 38 = .ok (.if_icmp .eq 6, 3) := by decide +kernel
theorem dX8_shared_41 : decode cX8_shared 41 = .ok (.iload 5, 2) := by decide +kernel
theorem dX8_shared_43 : decode cX8_shared 43 = .ok (.ireturn, 1) := by decide +kernel
theorem dX8_shared_44 : decode cX8_shared 44 = .ok (.iinc 5 1, 3) := by decide +kernel
theorem dX8_shared_47 : decode cX8_shared 47 = .ok (.goto (-44), 3) := by decide +kernel
theorem dX8_shared_50 : decode cX8_shared 50 = .ok (.iload 5, 2) := by decide +kernel
theorem dX8_shared_52 : decode cX8_shared 52 = .ok (.ireturn, 1) := by decide +kernel
theorem dX8_compare_0 : decode cX8_compare 0 = .ok (.aload_n 0, 1) := by decide +kernel
theorem dX8_compare_1 : decode cX8_compare 1 = .ok (.iload_n 1, 1) := by decide +kernel
theorem dX8_compare_2 : decode cX8_compare 2 = .ok (.iload_n 2, 1) := by decide +kernel
theorem dX8_compare_3 : decode cX8_compare 3 = .ok (.iload_n 3, 1) := by decide +kernel
theorem dX8_compare_4 : decode cX8_compare 4 = .ok (.iload 4, 2) := by decide +kernel
theorem dX8_compare_6 : decode cX8_compare 6 = .ok (.invokevirtual 61, 3) := by decide +kernel
theorem dX8_compare_9 : decode cX8_compare 9 = .ok (.istore 5, 2) := by decide +kernel
theorem dX8_compare_11 : decode cX8_compare 11 = .ok (.aload_n 0, 1) := by decide +kernel
theorem dX8_compare_12 : decode cX8_compare 12 = .ok (.iload_n 1, 1) := by decide +kernel
theorem dX8_compare_13 : decode cX8_compare 13 = .ok (.iload_n 2, 1) := by decide +kernel
theorem dX8_compare_14 : decode cX8_compare 14 = .ok (.iload 5, 2) := by decide +kernel
theorem dX8_compare_16 : decode cX8_compare 16 = .ok (.iadd, 1) := by decide +kernel
theorem dX8_compare_17 : decode cX8_compare 17 = .ok (.invokevirtual 57, 3) := by decide +kernel
theorem dX8_compare_20 : decode cX8_compare 20 = .ok (.aload_n 0, 1) := by decide +kernel
theorem dX8_compare_21 : decode cX8_compare 21 = .ok (.iload_n 3, 1) := by decide +kernel
theorem dX8_compare_22 : decode cX8_compare 22 = .ok (.iload 4, 2) := by decide +kernel
theorem dX8_compare_24 : decode cX8_compare 24 = .ok (.iload 5, 2) := by decide +kernel
theorem dX8_compare_26 : decode cX8_compare 26 = .ok (.iadd, 1) := by decide +kernel
theorem dX8_compare_27 : decode cX8_compare 27 = .ok (.invokevirtual 57, 3) := by decide +kernel
theorem dX8_compare_30 : decode cX8_compare 30 = .ok (.isub, 1) := by decide +kernel
theorem dX8_compare_31 : decode cX8_compare 31 = .ok (.istore 6, 2) := by decide +kernel
theorem dX8_compare_33 : decode cX8_compare 33 = .ok (.iload 6, 2) := by decide +kernel
theorem dX8_compare_35 : decode cX8_compare 35 = .ok (.ifCond .eq 8, 3) := by decide +kernel
theorem dX8_compare_38 : decode cX8_compare 38 = .ok (.iload 6, 2) := by decide +kernel
theorem dX8_compare_40 : decode cX8_compare 40 = .ok (.goto 6, 3) := by decide +kernel
theorem dX8_compare_43 : decode cX8_compare 43 = .ok (.iload_n 1, 1) := by decide +kernel
theorem dX8_compare_44 : decode cX8_compare 44 = .ok (.iload_n 3, 1) := by decide +kernel
theorem dX8_compare_45 : decode cX8_compare 45 = .ok (.isub, 1) := by decide +kernel
theorem dX8_compare_46 : decode cX8_compare 46 = .ok (.ireturn, 1) := by decide +kernel
theorem dX8_compareToRow_0 : decode cX8_compareToRow 0 = .ok (.iload 4, 2) := by decide +kernel
theorem dX8_compareToRow_2 : decode cX8_compareToRow 2 = .ok (.istore 5, 2) := by decide +kernel
theorem dX8_compareToRow_4 : decode cX8_compareToRow 4 = .ok (.iload 5, 2) := by decide +kernel
theorem dX8_compareToRow_6 : decode cX8_compareToRow 6 = .ok (.aload_n 3, 1) := by decide +kernel
theorem dX8_compareToRow_7 : decode cX8_compareToRow 7 = .ok (.invokevirtual 41, 3) := by decide +kernel
theorem dX8_compareToRow_10 : decode cX8_compareToRow 10 = .ok (.if_icmp .ge 38, 3) := by decide +kernel
theorem dX8_compareToRow_13 : decode cX8_compareToRow 13 = .ok (.aload_n 0, 1) := by decide +kernel
theorem dX8_compareToRow_14 : decode cX8_compareToRow 14 = .ok (.iload_n 1, 1) := by decide +kernel
theorem dX8_compareToRow_15 : decode cX8_compareToRow 15 = .ok (.iload_n 2, 1) := by decide +kernel
theorem dX8_compareToRow_16 : decode cX8_compareToRow 16 = .ok (.iload 5, 2) := by decide +kernel
theorem dX8_compareToRow_18 : decode cX8_compareToRow 18 = .ok (.iadd, 1) := by decide +kernel
theorem dX8_compareToRow_19 : decode cX8_compareToRow 19 = .ok (.iload 4, 2) := by decide +kernel
theorem dX8_compareToRow_21 : decode cX8_compareToRow 21 = .ok (.isub, 1) := by decide +kernel
theorem dX8_compareToRow_22 : decode cX8_compareToRow 22 = .ok (.invokevirtual 57, 3) := by decide +kernel
theorem dX8_compareToRow_25 : decode cX8_compareToRow 25 = .ok (.aload_n 3, 1) := by decide +kernel
theorem dX8_compareToRow_26 : decode cX8_compareToRow 26 = .ok (.iload 5, 2) := by decide +kernel
theorem dX8_compareToRow_28 : decode cX8_compareToRow 28 = .ok (.invokevirtual 53, 3) := by decide +kernel
theorem dX8_compareToRow_31 : decode cX8_compareToRow 31 = .ok (.isub, 1) := by decide +kernel
theorem dX8_compareToRow_32 : decode cX8_compareToRow 32 = .ok (.istore 6, 2) := by decide +kernel
theorem dX8_compareToRow_34 : decode cX8_compareToRow 34 = .ok (.iload 6, 2) := by decide +kernel
theorem dX8_compareToRow_36 : decode cX8_compareToRow 36 = .ok (.ifCond .eq 6, 3) := by decide +kernel
theorem dX8_compareToRow_39 : decode cX8_compareToRow 39 = .ok (.iload 6, 2) := by decide +kernel
theorem dX8_compareToRow_41 : decode cX8_compareToRow 41 = .ok (.ireturn, 1) := by decide +kernel
theorem dX8_compareToRow_42 : decode cX8_compareToRow 42 = .ok (.iinc 5 1, 3) := by decide +kernel
theorem dX8_compareToRow_45 : decode cX8_compareToRow 45 = .ok (.goto (-41), 3) := by decide +kernel
theorem dX8_compareToRow_48 : decode cX8_compareToRow 48 = .ok (.iconst 0, 1) := by decide +kernel
theorem dX8_compareToRow_49 : decode cX8_compareToRow 49 = .ok (.ireturn, 1) := by decide +kernel
theorem dX8_allPlaces_0 : decode cX8_allPlaces 0 = .ok (.lconst 1, 1) := by decide +kernel
theorem dX8_allPlaces_1 : decode cX8_allPlaces 1 = .ok (.aload_n 0, 1) := by decide +kernel
theorem dX8_allPlaces_2 : decode cX8_allPlaces 2 = .ok (.iload_n 1, 1) := by decide +kernel
theorem dX8_allPlaces_3 : decode cX8_allPlaces 3 = .ok (.invokevirtual 34, 3) := by decide +kernel
theorem dX8_allPlaces_6 : decode cX8_allPlaces 6 = .ok (.lshl, 1) := by decide +kernel
theorem dX8_allPlaces_7 : decode cX8_allPlaces 7 = .ok (.lconst 1, 1) := by decide +kernel
theorem dX8_allPlaces_8 : decode cX8_allPlaces 8 = .ok (.lsub, 1) := by decide +kernel
theorem dX8_allPlaces_9 : decode cX8_allPlaces 9 = .ok (.lreturn, 1) := by decide +kernel
theorem dX8_placesTaking_0 : decode cX8_placesTaking 0 = .ok (.iload_n 2, 1) := by decide +kernel
theorem dX8_placesTaking_1 : decode cX8_placesTaking 1 = .ok (.bipush 46, 2) := by decide +kernel
theorem dX8_placesTaking_3 : decode cX8_placesTaking 3 = .ok (.if_icmp .ne 9, 3) := by decide +kernel
theorem dX8_placesTaking_6 : decode cX8_placesTaking 6 = .ok (.aload_n 0, 1) := by decide +kernel
theorem dX8_placesTaking_7 : decode cX8_placesTaking 7 = .ok (.iload_n 1, 1) := by decide +kernel
theorem dX8_placesTaking_8 : decode cX8_placesTaking 8 = .ok (.invokevirtual 65, 3) := by decide +kernel
theorem dX8_placesTaking_11 : decode cX8_placesTaking 11 = .ok (.lreturn, 1) := by decide +kernel
theorem dX8_placesTaking_12 : decode cX8_placesTaking 12 = .ok (.lconst 0, 1) := by decide +kernel
theorem dX8_placesTaking_13 : decode cX8_placesTaking 13 = .ok (.lstore_n 3, 1) := by decide +kernel
theorem dX8_placesTaking_14 : decode cX8_placesTaking 14 = .ok (.iconst 0, 1) := by decide +kernel
theorem dX8_placesTaking_15 : decode cX8_placesTaking 15 = .ok (.istore 5, 2) := by decide +kernel
theorem dX8_placesTaking_17 : decode cX8_placesTaking 17 = .ok (.iload 5, 2) := by decide +kernel
theorem dX8_placesTaking_19 : decode cX8_placesTaking 19 = .ok (.aload_n 0, 1) := by decide +kernel
theorem dX8_placesTaking_20 : decode cX8_placesTaking 20 = .ok (.iload_n 1, 1) := by decide +kernel
theorem dX8_placesTaking_21 : decode cX8_placesTaking 21 = .ok (.invokevirtual 34, 3) := by decide +kernel
theorem dX8_placesTaking_24 : decode cX8_placesTaking 24 = .ok (.if_icmp .ge 27, 3) := by decide +kernel
theorem dX8_placesTaking_27 : decode cX8_placesTaking 27 = .ok (.aload_n 0, 1) := by decide +kernel
theorem dX8_placesTaking_28 : decode cX8_placesTaking 28 = .ok (.iload_n 1, 1) := by decide +kernel
theorem dX8_placesTaking_29 : decode cX8_placesTaking 29 = .ok (.iload 5, 2) := by decide +kernel
theorem dX8_placesTaking_31 : decode cX8_placesTaking 31 = .ok (.invokevirtual 57, 3) := by decide +kernel
theorem dX8_placesTaking_34 : decode cX8_placesTaking 34 = .ok (.iload_n 2, 1) := by decide +kernel
theorem dX8_placesTaking_35 : decode cX8_placesTaking 35 = .ok (.if_icmp .ne 10, 3) := by decide +kernel
theorem dX8_placesTaking_38 : decode cX8_placesTaking 38 = .ok (.lload_n 3, 1) := by decide +kernel
theorem dX8_placesTaking_39 : decode cX8_placesTaking 39 = .ok (.lconst 1, 1) := by decide +kernel
theorem dX8_placesTaking_40 : decode cX8_placesTaking 40 = .ok (.iload 5, 2) := by decide +kernel
theorem dX8_placesTaking_42 : decode cX8_placesTaking 42 = .ok (.lshl, 1) := by decide +kernel
theorem dX8_placesTaking_43 : decode cX8_placesTaking 43 = .ok (.lor, 1) := by decide +kernel
theorem dX8_placesTaking_44 : decode cX8_placesTaking 44 = .ok (.lstore_n 3, 1) := by decide +kernel
theorem dX8_placesTaking_45 : decode cX8_placesTaking 45 = .ok (.iinc 5 1, 3) := by decide +kernel
theorem dX8_placesTaking_48 : decode cX8_placesTaking 48 = .ok (.goto (-31), 3) := by decide +kernel
theorem dX8_placesTaking_51 : decode cX8_placesTaking 51 = .ok (.lload_n 3, 1) := by decide +kernel
theorem dX8_placesTaking_52 : decode cX8_placesTaking 52 = .ok (.lreturn, 1) := by decide +kernel
theorem dX8_placesOf_0 : decode cX8_placesOf 0 = .ok (.aload_n 0, 1) := by decide +kernel
theorem dX8_placesOf_1 : decode cX8_placesOf 1 = .ok (.iload_n 1, 1) := by decide +kernel
theorem dX8_placesOf_2 : decode cX8_placesOf 2 = .ok (.invokevirtual 65, 3) := by decide +kernel
theorem dX8_placesOf_5 : decode cX8_placesOf 5 = .ok (.iconst 1, 1) := by decide +kernel
theorem dX8_placesOf_6 : decode cX8_placesOf 6 = .ok (.lshl, 1) := by decide +kernel
theorem dX8_placesOf_7 : decode cX8_placesOf 7 = .ok (.lconst 1, 1) := by decide +kernel
theorem dX8_placesOf_8 : decode cX8_placesOf 8 = .ok (.ladd, 1) := by decide +kernel
theorem dX8_placesOf_9 : decode cX8_placesOf 9 = .ok (.lstore_n 3, 1) := by decide +kernel
theorem dX8_placesOf_10 : decode cX8_placesOf 10 = .ok (.aload_n 2, 1) := by decide +kernel
theorem dX8_placesOf_11 : decode cX8_placesOf 11 = .ok (.invokevirtual 41, 3) := by decide +kernel
theorem dX8_placesOf_14 : decode cX8_placesOf 14 = .ok (.iconst 1, 1) := by decide +kernel
theorem dX8_placesOf_15 : decode cX8_placesOf 15 = .ok (.isub, 1) := by decide +kernel
theorem dX8_placesOf_16 : decode cX8_placesOf 16 = .ok (.istore 5, 2) := by decide +kernel
theorem dX8_placesOf_18 : decode cX8_placesOf 18 = .ok (.iload 5, 2) := by decide +kernel
theorem dX8_placesOf_20 : decode cX8_placesOf 20 = .ok (.ifCond .lt 49, 3) := by decide +kernel
theorem dX8_placesOf_23 : decode cX8_placesOf 23 = .ok (.aload_n 2, 1) := by decide +kernel
theorem dX8_placesOf_24 : decode cX8_placesOf 24 = .ok (.iload 5, 2) := by decide +kernel
theorem dX8_placesOf_26 : decode cX8_placesOf 26 = .ok (.invokevirtual 53, 3) := by decide +kernel
theorem dX8_placesOf_29 : decode cX8_placesOf 29 = .ok (.istore 6, 2) := by decide +kernel
theorem dX8_placesOf_31 : decode cX8_placesOf 31 = .ok (.iload 6, 2) := by decide +kernel
theorem dX8_placesOf_33 : decode cX8_placesOf 33 = .ok (.bipush 126, 2) := by decide +kernel
theorem dX8_placesOf_35 : decode cX8_placesOf 35 = .ok (.if_icmp .ne 16, 3) := by decide +kernel
theorem dX8_placesOf_38 : decode cX8_placesOf 38 = .ok (.lload_n 3, 1) := by decide +kernel
theorem dX8_placesOf_39 : decode cX8_placesOf 39 = .ok (.lload_n 3, 1) := by decide +kernel
theorem dX8_placesOf_40 : decode cX8_placesOf 40 = .ok (.iconst 1, 1) := by decide +kernel
theorem dX8_placesOf_41 : decode cX8_placesOf 41 = .ok (.lushr, 1) := by decide +kernel
theorem dX8_placesOf_42 : decode cX8_placesOf 42 = .ok (.lor, 1) := by decide +kernel
theorem dX8_placesOf_43 : decode cX8_placesOf 43 = .ok (.lload_n 3, 1) := by decide +kernel
theorem dX8_placesOf_44 : decode cX8_placesOf 44 = .ok (.iconst 2, 1) := by decide +kernel
theorem dX8_placesOf_45 : decode cX8_placesOf 45 = .ok (.lushr, 1) := by decide +kernel
theorem dX8_placesOf_46 : decode cX8_placesOf 46 = .ok (.lor, 1) := by decide +kernel
theorem dX8_placesOf_47 : decode cX8_placesOf 47 = .ok (.lstore_n 3, 1) := by decide +kernel
theorem dX8_placesOf_48 : decode cX8_placesOf 48 = .ok (.goto 15, 3) := by decide +kernel
theorem dX8_placesOf_51 : decode cX8_placesOf 51 = .ok (.lload_n 3, 1) := by decide +kernel
theorem dX8_placesOf_52 : decode cX8_placesOf 52 = .ok (.iconst 1, 1) := by decide +kernel
theorem dX8_placesOf_53 : decode cX8_placesOf 53 = .ok (.lushr, 1) := by decide +kernel
theorem dX8_placesOf_54 : decode cX8_placesOf 54 = .ok (.aload_n 0, 1) := by decide +kernel
theorem dX8_placesOf_55 : decode cX8_placesOf 55 = .ok (.iload_n 1, 1) := by decide +kernel
theorem dX8_placesOf_56 : decode cX8_placesOf 56 = .ok (.iload 6, 2) := by decide +kernel
theorem dX8_placesOf_58 : decode cX8_placesOf 58 = .ok (.invokevirtual 69, 3) := by decide +kernel
theorem dX8_placesOf_61 : decode cX8_placesOf 61 = .ok (.land, 1) := by decide +kernel
theorem dX8_placesOf_62 : decode cX8_placesOf 62 = .ok (.lstore_n 3, 1) := by decide +kernel
theorem dX8_placesOf_63 : decode cX8_placesOf 63 = .ok (.iinc 5 (-1), 3) := by decide +kernel
theorem dX8_placesOf_66 : decode cX8_placesOf 66 = .ok (.goto (-48), 3) := by decide +kernel
theorem dX8_placesOf_69 : decode cX8_placesOf 69 = .ok (.lload_n 3, 1) := by decide +kernel
theorem dX8_placesOf_70 : decode cX8_placesOf 70 = .ok (.aload_n 0, 1) := by decide +kernel
theorem dX8_placesOf_71 : decode cX8_placesOf 71 = .ok (.iload_n 1, 1) := by decide +kernel
theorem dX8_placesOf_72 : decode cX8_placesOf 72 = .ok (.invokevirtual 65, 3) := by decide +kernel
theorem dX8_placesOf_75 : decode cX8_placesOf 75 = .ok (.land, 1) := by decide +kernel
theorem dX8_placesOf_76 : decode cX8_placesOf 76 = .ok (.lreturn, 1) := by decide +kernel
theorem dX8_timesOf_0 : decode cX8_timesOf 0 = .ok (.iconst 0, 1) := by decide +kernel
theorem dX8_timesOf_1 : decode cX8_timesOf 1 = .ok (.istore_n 2, 1) := by decide +kernel
theorem dX8_timesOf_2 : decode cX8_timesOf 2 = .ok (.iconst 0, 1) := by decide +kernel
theorem dX8_timesOf_3 : decode cX8_timesOf 3 = .ok (.istore_n 3, 1) := by decide +kernel
theorem dX8_timesOf_4 : decode cX8_timesOf 4 = .ok (.iload_n 3, 1) := by decide +kernel
theorem dX8_timesOf_5 : decode cX8_timesOf 5 = .ok (.aload_n 0, 1) := by decide +kernel
theorem dX8_timesOf_6 : decode cX8_timesOf 6 = .ok (.getfield 22, 3) := by decide +kernel
theorem dX8_timesOf_9 : decode cX8_timesOf 9 = .ok (.if_icmp .ge 21, 3) := by decide +kernel
theorem dX8_timesOf_12 : decode cX8_timesOf 12 = .ok (.iload_n 2, 1) := by decide +kernel
theorem dX8_timesOf_13 : decode cX8_timesOf 13 = .ok (.aload_n 0, 1) := by decide +kernel
theorem dX8_timesOf_14 : decode cX8_timesOf 14 = .ok (.iload_n 3, 1) := by decide +kernel
theorem dX8_timesOf_15 : decode cX8_timesOf 15 = .ok (.aload_n 1, 1) := by decide +kernel
theorem dX8_timesOf_16 : decode cX8_timesOf 16 = .ok (.invokevirtual 73, 3) := by decide +kernel
theorem dX8_timesOf_19 : decode cX8_timesOf 19 = .ok (.invokestatic 77, 3) := by decide +kernel
theorem dX8_timesOf_22 : decode cX8_timesOf 22 = .ok (.iadd, 1) := by decide +kernel
theorem dX8_timesOf_23 : decode cX8_timesOf 23 = .ok (.istore_n 2, 1) := by decide +kernel
theorem dX8_timesOf_24 : decode cX8_timesOf 24 = .ok (.iinc 3 1, 3) := by decide +kernel
theorem dX8_timesOf_27 : decode cX8_timesOf 27 = .ok (.goto (-23), 3) := by decide +kernel
theorem dX8_timesOf_30 : decode cX8_timesOf 30 = .ok (.iload_n 2, 1) := by decide +kernel
theorem dX8_timesOf_31 : decode cX8_timesOf 31 = .ok (.ireturn, 1) := by decide +kernel
theorem dX9_init_0 : decode cX9_init 0 = .ok (.aload_n 0, 1) := by decide +kernel
theorem dX9_init_1 : decode cX9_init 1 = .ok (.invokespecial 3, 3) := by decide +kernel
theorem dX9_init_4 : decode cX9_init 4 = .ok (.aload_n 0, 1) := by decide +kernel
theorem dX9_init_5 : decode cX9_init 5 = .ok (.new 9, 3) := by decide +kernel
theorem dX9_init_8 : decode cX9_init 8 = .ok (.dup, 1) := by decide +kernel
theorem dX9_init_9 : decode cX9_init 9 = .ok (.invokespecial 11, 3) := by decide +kernel
theorem dX9_init_12 : decode cX9_init 12 = .ok (.putfield 12, 3) := by decide +kernel
theorem dX9_init_15 : decode cX9_init 15 = .ok (.aload_n 0, 1) := by decide +kernel
theorem dX9_init_16 : decode cX9_init 16 = .ok (.sipush 480, 3) := by decide +kernel
theorem dX9_init_19 : decode cX9_init 19 = .ok (.newarray .int, 2) := by decide +kernel
theorem dX9_init_21 : decode cX9_init 21 = .ok (.putfield 18, 3) := by decide +kernel
theorem dX9_init_24 : decode cX9_init 24 = .ok (.aload_n 0, 1) := by decide +kernel
theorem dX9_init_25 : decode cX9_init 25 = .ok (.sipush 480, 3) := by decide +kernel
theorem dX9_init_28 : decode cX9_init 28 = .ok (.newarray .int, 2) := by decide +kernel
theorem dX9_init_30 : decode cX9_init 30 = .ok (.putfield 22, 3) := by decide +kernel
theorem dX9_init_33 : decode cX9_init 33 = .ok (.aload_n 0, 1) := by decide +kernel
theorem dX9_init_34 : decode cX9_init 34 = .ok (.sipush 480, 3) := by decide +kernel
theorem dX9_init_37 : decode cX9_init 37 = .ok (.newarray .int, 2) := by decide +kernel
theorem dX9_init_39 : decode cX9_init 39 = .ok (.putfield 25, 3) := by decide +kernel
theorem dX9_init_42 : decode cX9_init 42 = .ok (.return_, 1) := by decide +kernel
theorem dX9_texts_0 : decode cX9_texts 0 = .ok (.aload_n 0, 1) := by decide +kernel
theorem dX9_texts_1 : decode cX9_texts 1 = .ok (.getfield 12, 3) := by decide +kernel
theorem dX9_texts_4 : decode cX9_texts 4 = .ok (.areturn, 1) := by decide +kernel
theorem dX9_forgetOrder_0 : decode cX9_forgetOrder 0 = .ok (.aload_n 0, 1) := by decide +kernel
theorem dX9_forgetOrder_1 : decode cX9_forgetOrder 1 = .ok (.iconst 0, 1) := by decide +kernel
theorem dX9_forgetOrder_2 : decode cX9_forgetOrder 2 = .ok (.putfield 28, 3) := by decide +kernel
theorem dX9_forgetOrder_5 : decode cX9_forgetOrder 5 = .ok (.aload_n 0, 1) := by decide +kernel
theorem dX9_forgetOrder_6 : decode cX9_forgetOrder 6 = .ok (.iconst 0, 1) := by decide +kernel
theorem dX9_forgetOrder_7 : decode cX9_forgetOrder 7 = .ok (.putfield 32, 3) := by decide +kernel
theorem dX9_forgetOrder_10 : decode cX9_forgetOrder 10 = .ok (.return_, 1) := by decide +kernel
theorem dX9_become_0 : decode cX9_become 0 = .ok (.aload_n 0, 1) := by decide +kernel
theorem dX9_become_1 : decode cX9_become 1 = .ok (.getfield 12, 3) := by decide +kernel
theorem dX9_become_4 : decode cX9_become 4 = .ok (.aload_n 1, 1) := by decide +kernel
theorem dX9_become_5 : decode cX9_become 5 = .ok (.getfield 12, 3) := by decide +kernel
theorem dX9_become_8 : decode cX9_become 8 = .ok (.invokevirtual 36, 3) := by decide +kernel
theorem dX9_become_11 : decode cX9_become 11 = .ok (.aload_n 0, 1) := by decide +kernel
theorem dX9_become_12 : decode cX9_become 12 = .ok (.invokevirtual 40, 3) := by decide +kernel
theorem dX9_become_15 : decode cX9_become 15 = .ok (.return_, 1) := by decide +kernel
theorem dX9_putInOrder_0 : decode cX9_putInOrder 0 = .ok (.aload_n 0, 1) := by decide +kernel
theorem dX9_putInOrder_1 : decode cX9_putInOrder 1 = .ok (.getfield 28, 3) := by decide +kernel
theorem dX9_putInOrder_4 : decode cX9_putInOrder 4 = .ok (.ifCond .eq 4, 3) := by decide +kernel
theorem dX9_putInOrder_7 : decode cX9_putInOrder 7 = .ok (.return_, 1) := by decide +kernel
theorem dX9_putInOrder_8 : decode cX9_putInOrder 8 = .ok (.aload_n 0, 1) := by decide +kernel
theorem dX9_putInOrder_9 : decode cX9_putInOrder 9 = .ok (.iconst 0, 1) := by decide +kernel
theorem dX9_putInOrder_10 : decode cX9_putInOrder 10 = .ok (.putfield 32, 3) := by decide +kernel
theorem dX9_putInOrder_13 : decode cX9_putInOrder 13 = .ok (.iconst 0, 1) := by decide +kernel
theorem dX9_putInOrder_14 : decode cX9_putInOrder 14 = .ok (.istore_n 1, 1) := by decide +kernel
theorem dX9_putInOrder_15 : decode cX9_putInOrder 15 = .ok (.iload_n 1, 1) := by decide +kernel
theorem dX9_putInOrder_16 : decode cX9_putInOrder 16 = .ok (.aload_n 0, 1) := by decide +kernel
theorem dX9_putInOrder_17 : decode cX9_putInOrder 17 = .ok (.getfield 12, 3) := by decide +kernel
theorem dX9_putInOrder_20 : decode cX9_putInOrder 20 = .ok (.invokevirtual 43, 3) := by decide +kernel
theorem dX9_putInOrder_23 : decode cX9_putInOrder 23 = .ok (.if_icmp .ge 35, 3) := by decide +kernel
theorem dX9_putInOrder_26 : decode cX9_putInOrder 26 = .ok (.iconst 0, 1) := by decide +kernel
theorem dX9_putInOrder_27 : decode cX9_putInOrder 27 = .ok (.istore_n 2, 1) := by decide +kernel
theorem dX9_putInOrder_28 : decode cX9_putInOrder 28 = .ok (.iload_n 2, 1) := by decide +kernel
theorem dX9_putInOrder_29 : decode cX9_putInOrder 29 = .ok (.aload_n 0, 1) := by decide +kernel
theorem dX9_putInOrder_30 : decode cX9_putInOrder 30 = .ok (.getfield 12, 3) := by decide +kernel
theorem dX9_putInOrder_33 : decode cX9_putInOrder 33 = .ok (.iload_n 1, 1) := by decide +kernel
theorem dX9_putInOrder_34 : decode cX9_putInOrder 34 = .ok (.invokevirtual 46, 3) := by decide +kernel
theorem dX9_putInOrder_37 : decode cX9_putInOrder 37 = .ok (.if_icmp .ge 15, 3) := by decide +kernel
theorem dX9_putInOrder_40 : decode cX9_putInOrder 40 = .ok (.aload_n 0, 1) := by decide +kernel
theorem dX9_putInOrder_41 : decode cX9_putInOrder 41 = .ok (.iload_n 1, 1) := by decide +kernel
theorem dX9_putInOrder_42 : decode cX9_putInOrder 42 = .ok (.iload_n 2, 1) := by decide +kernel
theorem dX9_putInOrder_43 : decode cX9_putInOrder 43 = .ok (.invokevirtual 50, 3) := by decide +kernel
theorem dX9_putInOrder_46 : decode cX9_putInOrder 46 = .ok (.iinc 2 1, 3) := by decide +kernel
theorem dX9_putInOrder_49 : decode cX9_putInOrder 49 = .ok (.goto (-21), 3) := by decide +kernel
theorem dX9_putInOrder_52 : decode cX9_putInOrder 52 = .ok (.iinc 1 1, 3) := by decide +kernel
theorem dX9_putInOrder_55 : decode cX9_putInOrder 55 = .ok (.goto (-40), 3) := by decide +kernel
theorem dX9_putInOrder_58 : decode cX9_putInOrder 58 = .ok (.aload_n 0, 1) := by decide +kernel
theorem dX9_putInOrder_59 : decode cX9_putInOrder 59 = .ok (.iconst 1, 1) := by decide +kernel
theorem dX9_putInOrder_60 : decode cX9_putInOrder 60 = .ok (.putfield 28, 3) := by decide +kernel
theorem dX9_putInOrder_63 : decode cX9_putInOrder 63 = .ok (.iconst 0, 1) := by decide +kernel
theorem dX9_putInOrder_64 : decode cX9_putInOrder 64 = .ok (.istore_n 1, 1) := by decide +kernel
theorem dX9_putInOrder_65 : decode cX9_putInOrder 65 = .ok (.iload_n 1, 1) := by decide +kernel
theorem dX9_putInOrder_66 : decode cX9_putInOrder 66 = .ok (.aload_n 0, 1) := by decide +kernel
theorem dX9_putInOrder_67 : decode cX9_putInOrder 67 = .ok (.getfield 32, 3) := by decide +kernel
theorem dX9_putInOrder_70 : decode cX9_putInOrder 70 = .ok (.if_icmp .ge 86, 3) := by decide +kernel
theorem dX9_putInOrder_73 : decode cX9_putInOrder 73 = .ok (.iload_n 1, 1) := by decide +kernel
theorem dX9_putInOrder_74 : decode cX9_putInOrder 74 = .ok (.sipush 480, 3) := by decide +kernel
theorem dX9_putInOrder_77 : decode cX9_putInOrder 77 = .ok (.if_icmp .ge 79, 3) := by decide +kernel
theorem dX9_putInOrder_80 : decode cX9_putInOrder 80 = .ok (.aload_n 0, 1) := by decide +kernel
theorem dX9_putInOrder_81 : decode cX9_putInOrder 81 = .ok (.getfield 18, 3) := by decide +kernel
theorem dX9_putInOrder_84 : decode cX9_putInOrder 84 = .ok (.iload_n 1, 1) := by decide +kernel
theorem dX9_putInOrder_85 : decode cX9_putInOrder 85 = .ok (.iaload, 1) := by decide +kernel
theorem dX9_putInOrder_86 : decode cX9_putInOrder 86 = .ok (.istore_n 2, 1) := by decide +kernel
theorem dX9_putInOrder_87 : decode cX9_putInOrder 87 = .ok (.iload_n 2, 1) := by decide +kernel
theorem dX9_putInOrder_88 : decode cX9_putInOrder 88 = .ok (.ifCond .lt 17, 3) := by decide +kernel
theorem dX9_putInOrder_91 : decode cX9_putInOrder 91 = .ok (.iload_n 2, 1) := by decide +kernel
theorem dX9_putInOrder_92 : decode cX9_putInOrder 92 = .ok (.sipush 480, 3) := by decide +kernel
theorem dX9_putInOrder_95 : decode cX9_putInOrder 95 = .ok (.if_icmp .ge 10, 3) := by decide +kernel
theorem dX9_putInOrder_98 : decode cX9_putInOrder 98 = .ok (.aload_n 0, 1) := by decide +kernel
theorem dX9_putInOrder_99 : decode cX9_putInOrder 99 = .ok (.getfield 22, 3) := by decide +kernel
theorem dX9_putInOrder_102 : decode cX9_putInOrder 102 = .ok (.iload_n 2, 1) := by decide +kernel
theorem dX9_putInOrder_103 : decode cX9_putInOrder 103 = .ok (.iload_n 1, 1) := by decide +kernel
theorem dX9_putInOrder_104 : decode cX9_putInOrder 104 = .ok (.iastore, 1) := by decide +kernel
theorem dX9_putInOrder_105 : decode cX9_putInOrder 105 = .ok (.aload_n 0, 1) := by decide +kernel
theorem dX9_putInOrder_106 : decode cX9_putInOrder 106 = .ok (.getfield 25, 3) := by decide +kernel
theorem dX9_putInOrder_109 : decode cX9_putInOrder 109 = .ok (.iload_n 1, 1) := by decide +kernel
theorem dX9_putInOrder_110 : decode cX9_putInOrder 110 = .ok (.iload_n 1, 1) := by decide +kernel
theorem dX9_putInOrder_111 : decode cX9_putInOrder 111 = .ok (.ifCond .ne 7, 3) := by decide +kernel
theorem dX9_putInOrder_114 : decode cX9_putInOrder 114 = .ok (.iconst 0, 1) := by decide +kernel
theorem dX9_putInOrder_115 : decode cX9_putInOrder 115 = .ok (.goto 34, 3) := by decide +kernel
theorem dX9_putInOrder_118 : decode cX9_putInOrder 118 = .ok (.aload_n 0, 1) := by decide +kernel
theorem dX9_putInOrder_119 : decode cX9_putInOrder 119 = .ok (.getfield 12, 3) := by decide +kernel
theorem dX9_putInOrder_122 : decode cX9_putInOrder 122 = .ok (.aload_n 0, 1) := by decide +kernel
theorem dX9_putInOrder_123 : decode cX9_putInOrder 123 = .ok (.iload_n 1, 1) := by decide +kernel
theorem dX9_putInOrder_124 : decode cX9_putInOrder 124 = .ok (.iconst 1, 1) := by decide +kernel
theorem dX9_putInOrder_125 : decode cX9_putInOrder 125 = .ok (.isub, 1) := by decide +kernel
theorem dX9_putInOrder_126 : decode cX9_putInOrder 126 = .ok (.invokevirtual 54, 3) := by decide +kernel
theorem dX9_putInOrder_129 : decode cX9_putInOrder 129 = .ok (.aload_n 0, 1) := by decide +kernel
theorem dX9_putInOrder_130 : decode cX9_putInOrder 130 = .ok (.iload_n 1, 1) := by decide +kernel
theorem dX9_putInOrder_131 : decode cX9_putInOrder 131 = .ok (.iconst 1, 1) := by decide +kernel
theorem dX9_putInOrder_132 : decode cX9_putInOrder 132 = .ok (.isub, 1) := by decide +kernel
theorem dX9_putInOrder_133 : decode cX9_putInOrder 133 = .ok (.invokevirtual 57, 3) := by decide +kernel
theorem dX9_putInOrder_136 : decode cX9_putInOrder 136 = .ok (.aload_n 0, 1) := by decide +kernel
theorem dX9_putInOrder_137 : decode cX9_putInOrder 137 = .ok (.iload_n 1, 1) := by decide +kernel
theorem dX9_putInOrder_138 : decode cX9_putInOrder 138 = .ok (.invokevirtual 54, 3) := by decide +kernel
theorem dX9_putInOrder_141 : decode cX9_putInOrder 141 = .ok (.aload_n 0, 1) := by decide +kernel
theorem dX9_putInOrder_142 : decode cX9_putInOrder 142 = .ok (.iload_n 1, 1) := by decide +kernel
theorem dX9_putInOrder_143 : decode cX9_putInOrder 143 = .ok (.invokevirtual 57, 3) := by decide +kernel
theorem dX9_putInOrder_146 : decode cX9_putInOrder 146 = .ok (.invokevirtual 60, 3) := by decide +kernel
theorem dX9_putInOrder_149 : decode cX9_putInOrder 149 = .ok (.iastore, 1) := by decide +kernel
theorem dX9_putInOrder_150 : decode cX9_putInOrder 150 = .ok (.iinc 1 1, 3) := by decide +kernel
theorem dX9_putInOrder_153 : decode cX9_putInOrder 153 = .ok (.goto (-88), 3) := by decide +kernel
theorem dX9_putInOrder_156 : decode cX9_putInOrder 156 = .ok (.return_, 1) := by decide +kernel
theorem dX9_putIn_0 : decode cX9_putIn 0 = .ok (.aload_n 0, 1) := by decide +kernel
theorem dX9_putIn_1 : decode cX9_putIn 1 = .ok (.getfield 32, 3) := by decide +kernel
theorem dX9_putIn_4 : decode cX9_putIn 4 = .ok (.ifCond .lt 13, 3) := by decide +kernel
theorem dX9_putIn_7 : decode cX9_putIn 7 = .ok (.aload_n 0, 1) := by decide +kernel
theorem dX9_putIn_8 : decode cX9_putIn 8 = .ok (.getfield 32, 3) := by decide +kernel
theorem dX9_putIn_11 : decode cX9_putIn 11 = .ok (.sipush 480, 3) := by decide +kernel
theorem dX9_putIn_14 : decode cX9_putIn 14 = .ok (.if_icmp .lt 4, 3) := by decide +kernel
theorem dX9_putIn_17 : decode cX9_putIn 17 = .ok (.return_, 1) := by decide +kernel
theorem dX9_putIn_18 : decode cX9_putIn 18 = .ok (.iconst 0, 1) := by decide +kernel
theorem dX9_putIn_19 : decode cX9_putIn 19 = .ok (.istore_n 3, 1) := by decide +kernel
theorem dX9_putIn_20 : decode cX9_putIn 20 = .ok (.aload_n 0, 1) := by decide +kernel
theorem dX9_putIn_21 : decode cX9_putIn 21 = .ok (.getfield 32, 3) := by decide +kernel
theorem dX9_putIn_24 : decode cX9_putIn 24 = .ok (.istore 4, 2) := by decide +kernel
theorem dX9_putIn_26 : decode cX9_putIn 26 = .ok (.iconst 0, 1) := by decide +kernel
theorem dX9_putIn_27 : decode cX9_putIn 27 = .ok (.istore 5, 2) := by decide +kernel
theorem dX9_putIn_29 : decode cX9_putIn 29 = .ok (.iload 5, 2) := by decide +kernel
theorem dX9_putIn_31 : decode cX9_putIn 31 = .ok (.sipush 480, 3) := by decide +kernel
theorem dX9_putIn_34 : decode cX9_putIn 34 = .ok (.if_icmp .ge 66, 3) := by decide +kernel
theorem dX9_putIn_37 : decode cX9_putIn 37 = .ok (.iload_n 3, 1) := by decide +kernel
theorem dX9_putIn_38 : decode cX9_putIn 38 = .ok (.iload 4, 2) := by decide +kernel
theorem dX9_putIn_40 : decode cX9_putIn 40 = .ok (.if_icmp .ge 60, 3) := by decide +kernel
theorem dX9_putIn_43 : decode cX9_putIn 43 = .ok (.iload_n 3, 1) := by decide +kernel
theorem dX9_putIn_44 : decode cX9_putIn 44 = .ok (.iload 4, 2) := by decide +kernel
theorem dX9_putIn_46 : decode cX9_putIn 46 = .ok (.iadd, 1) := by decide +kernel
theorem dX9_putIn_47 : decode cX9_putIn 47 = .ok (.iconst 2, 1) := by decide +kernel
theorem dX9_putIn_48 : decode cX9_putIn 48 = .ok (.idiv, 1) := by decide +kernel
theorem dX9_putIn_49 : decode cX9_putIn 49 = .ok (.istore 6, 2) := by decide +kernel
theorem dX9_putIn_51 : decode cX9_putIn 51 = .ok (.aload_n 0, 1) := by decide +kernel
theorem dX9_putIn_52 : decode cX9_putIn 52 = .ok (.getfield 18, 3) := by decide +kernel
theorem dX9_putIn_55 : decode cX9_putIn 55 = .ok (.iload 6, 2) := by decide +kernel
theorem dX9_putIn_57 : decode cX9_putIn 57 = .ok (.iaload, 1) := by decide +kernel
theorem dX9_putIn_58 : decode cX9_putIn 58 = .ok (.istore 7, 2) := by decide +kernel
theorem dX9_putIn_60 : decode cX9_putIn 60 = .ok (.aload_n 0, 1) := by decide +kernel
theorem dX9_putIn_61 : decode cX9_putIn 61 = .ok (.getfield 12, 3) := by decide +kernel
theorem dX9_putIn_64 : decode cX9_putIn 64 = .ok (.iload 7, 2) := by decide +kernel
theorem dX9_putIn_66 : decode cX9_putIn 66 = .ok (.bipush 40, 2) := by decide +kernel
theorem dX9_putIn_68 : decode cX9_putIn 68 = .ok (.idiv, 1) := by decide +kernel
theorem dX9_putIn_69 : decode cX9_putIn 69 = .ok (.iload 7, 2) := by decide +kernel
theorem dX9_putIn_71 : decode cX9_putIn 71 = .ok (.bipush 40, 2) := by decide +kernel
theorem dX9_putIn_73 : decode cX9_putIn 73 = .ok (.irem, 1) := by decide +kernel
theorem dX9_putIn_74 : decode cX9_putIn 74 = .ok (.iload_n 1, 1) := by decide +kernel
theorem dX9_putIn_75 : decode cX9_putIn 75 = .ok (.iload_n 2, 1) := by decide +kernel
theorem dX9_putIn_76 : decode cX9_putIn 76 = .ok (.invokevirtual 64, 3) := by decide +kernel
theorem dX9_putIn_79 : decode cX9_putIn 79 = .ok (.ifCond .ge 11, 3) := by decide +kernel
theorem dX9_putIn_82 : decode cX9_putIn 82 = .ok (.iload 6, 2) := by decide +kernel
theorem dX9_putIn_84 : decode cX9_putIn 84 = .ok (.iconst 1, 1) := by decide +kernel
theorem dX9_putIn_85 : decode cX9_putIn 85 = .ok (.iadd, 1) := by decide +kernel
theorem dX9_putIn_86 : decode cX9_putIn 86 = .ok (.istore_n 3, 1) := by decide +kernel
theorem dX9_putIn_87 : decode cX9_putIn 87 = .ok (.goto 7, 3) := by decide +kernel
theorem dX9_putIn_90 : decode cX9_putIn 90 = .ok (.iload 6, 2) := by decide +kernel
theorem dX9_putIn_92 : decode cX9_putIn 92 = .ok (.istore 4, 2) := by decide +kernel
theorem dX9_putIn_94 : decode cX9_putIn 94 = .ok (.iinc 5 1, 3) := by decide +kernel
theorem dX9_putIn_97 : decode cX9_putIn 97 = .ok (.goto (-68), 3) := by decide +kernel
theorem dX9_putIn_100 : decode cX9_putIn 100 = .ok (.aload_n 0, 1) := by decide +kernel
theorem dX9_putIn_101 : decode cX9_putIn 101 = .ok (.getfield 18, 3) := by decide +kernel
theorem dX9_putIn_104 : decode cX9_putIn 104 = .ok (.iload_n 3, 1) := by decide +kernel
theorem dX9_putIn_105 : decode cX9_putIn 105 = .ok (.aload_n 0, 1) := by decide +kernel
theorem dX9_putIn_106 : decode cX9_putIn 106 = .ok (.getfield 18, 3) := by decide +kernel
theorem dX9_putIn_109 : decode cX9_putIn 109 = .ok (.iload_n 3, 1) := by decide +kernel
theorem dX9_putIn_110 : decode cX9_putIn 110 = .ok (.iconst 1, 1) := by decide +kernel
theorem dX9_putIn_111 : decode cX9_putIn 111 = .ok (.iadd, 1) := by decide +kernel
theorem dX9_putIn_112 : decode cX9_putIn 112 = .ok (.aload_n 0, 1) := by decide +kernel
theorem dX9_putIn_113 : decode cX9_putIn 113 = .ok (.getfield 32, 3) := by decide +kernel
theorem dX9_putIn_116 : decode cX9_putIn 116 = .ok (.iload_n 3, 1) := by decide +kernel
theorem dX9_putIn_117 : decode cX9_putIn 117 = .ok (.isub, 1) := by decide +kernel
theorem dX9_putIn_118 : decode cX9_putIn 118 = .ok (.invokestatic 67, 3) := by decide +kernel
theorem dX9_putIn_121 : decode cX9_putIn 121 = .ok (.aload_n 0, 1) := by decide +kernel
theorem dX9_putIn_122 : decode cX9_putIn 122 = .ok (.getfield 18, 3) := by decide +kernel
theorem dX9_putIn_125 : decode cX9_putIn 125 = .ok (.iload_n 3, 1) := by decide +kernel
theorem dX9_putIn_126 : decode cX9_putIn 126 = .ok (.iload_n 1, 1) := by decide +kernel
theorem dX9_putIn_127 : decode cX9_putIn 127 = .ok (.bipush 40, 2) := by decide +kernel
theorem dX9_putIn_129 : decode cX9_putIn 129 = .ok (.imul, 1) := by decide +kernel
theorem dX9_putIn_130 : decode cX9_putIn 130 = .ok (.iload_n 2, 1) := by decide +kernel
theorem dX9_putIn_131 : decode cX9_putIn 131 = .ok (.iadd, 1) := by decide +kernel
theorem dX9_putIn_132 : decode cX9_putIn 132 = .ok (.iastore, 1) := by decide +kernel
theorem dX9_putIn_133 : decode cX9_putIn 133 = .ok (.aload_n 0, 1) := by decide +kernel
theorem dX9_putIn_134 : decode cX9_putIn 134 = .ok (.dup, 1) := by decide +kernel
theorem dX9_putIn_135 : decode cX9_putIn 135 = .ok (.getfield 32, 3) := by decide +kernel
theorem dX9_putIn_138 : decode cX9_putIn 138 = .ok (.iconst 1, 1) := by decide +kernel
theorem dX9_putIn_139 : decode cX9_putIn 139 = .ok (.iadd, 1) := by decide +kernel
theorem dX9_putIn_140 : decode cX9_putIn 140 = .ok (.putfield 32, 3) := by decide +kernel
theorem dX9_putIn_143 : decode cX9_putIn 143 = .ok (.return_, 1) := by decide +kernel
theorem dX9_codeAt_0 : decode cX9_codeAt 0 = .ok (.iload_n 1, 1) := by decide +kernel
theorem dX9_codeAt_1 : decode cX9_codeAt 1 = .ok (.ifCond .lt 29, 3) := by decide +kernel
theorem dX9_codeAt_4 : decode cX9_codeAt 4 = .ok (.iload_n 1, 1) := by decide +kernel
theorem dX9_codeAt_5 : decode cX9_codeAt 5 = .ok (.aload_n 0, 1) := by decide +kernel
theorem dX9_codeAt_6 : decode cX9_codeAt 6 = .ok (.getfield 32, 3) := by decide +kernel
theorem dX9_codeAt_9 : decode cX9_codeAt 9 = .ok (.if_icmp .ge 21, 3) := by decide +kernel
theorem dX9_codeAt_12 : decode cX9_codeAt 12 = .ok (.iload_n 1, 1) := by decide +kernel
theorem dX9_codeAt_13 : decode cX9_codeAt 13 = .ok (.aload_n 0, 1) := by decide +kernel
theorem dX9_codeAt_14 : decode cX9_codeAt 14 = .ok (.getfield 18, 3) := by decide +kernel
theorem dX9_codeAt_17 : decode cX9_codeAt 17 = .ok (.arraylength, 1) := by decide +kernel
theorem dX9_codeAt_18 : decode cX9_codeAt 18 = .ok (.if_icmp .ge 12, 3) := by decide +kernel
theorem dX9_codeAt_21 : decode cX9_codeAt 21 = .ok (.aload_n 0, 1) := by decide +kernel
theorem dX9_codeAt_22 : decode cX9_codeAt 22 = .ok (.getfield 18, 3) := by decide +kernel
theorem dX9_codeAt_25 : decode cX9_codeAt 25 = .ok (.iload_n 1, 1) := by decide +kernel
theorem dX9_codeAt_26 : decode cX9_codeAt 26 = .ok (.iaload, 1) := by decide +kernel
theorem dX9_codeAt_27 : decode cX9_codeAt 27 = .ok (.goto 4, 3) := by decide +kernel
theorem dX9_codeAt_30 : decode cX9_codeAt 30 = .ok (.iconst (-1), 1) := by decide +kernel
theorem dX9_codeAt_31 : decode cX9_codeAt 31 = .ok (.ireturn, 1) := by decide +kernel
theorem dX9_slotAt_0 : decode cX9_slotAt 0 = .ok (.aload_n 0, 1) := by decide +kernel
theorem dX9_slotAt_1 : decode cX9_slotAt 1 = .ok (.iload_n 1, 1) := by decide +kernel
theorem dX9_slotAt_2 : decode cX9_slotAt 2 = .ok (.invokevirtual 73, 3) := by decide +kernel
theorem dX9_slotAt_5 : decode cX9_slotAt 5 = .ok (.istore_n 2, 1) := by decide +kernel
theorem dX9_slotAt_6 : decode cX9_slotAt 6 = .ok (.iload_n 2, 1) := by decide +kernel
theorem dX9_slotAt_7 : decode cX9_slotAt 7 = .ok (.ifCond .ge 7, 3) := by decide +kernel
theorem dX9_slotAt_10 : decode cX9_slotAt 10 = .ok (.iconst (-1), 1) := by decide +kernel
theorem dX9_slotAt_11 : decode cX9_slotAt 11 = .ok (.goto 7, 3) := by decide +kernel
theorem dX9_slotAt_14 : decode cX9_slotAt 14 = .ok (.iload_n 2, 1) := by decide +kernel
theorem dX9_slotAt_15 : decode cX9_slotAt 15 = .ok (.bipush 40, 2) := by decide +kernel
theorem dX9_slotAt_17 : decode cX9_slotAt 17 = .ok (.idiv, 1) := by decide +kernel
theorem dX9_slotAt_18 : decode cX9_slotAt 18 = .ok (.ireturn, 1) := by decide +kernel
theorem dX9_placeAt_0 : decode cX9_placeAt 0 = .ok (.aload_n 0, 1) := by decide +kernel
theorem dX9_placeAt_1 : decode cX9_placeAt 1 = .ok (.iload_n 1, 1) := by decide +kernel
theorem dX9_placeAt_2 : decode cX9_placeAt 2 = .ok (.invokevirtual 73, 3) := by decide +kernel
theorem dX9_placeAt_5 : decode cX9_placeAt 5 = .ok (.istore_n 2, 1) := by decide +kernel
theorem dX9_placeAt_6 : decode cX9_placeAt 6 = .ok (.iload_n 2, 1) := by decide +kernel
theorem dX9_placeAt_7 : decode cX9_placeAt 7 = .ok (.ifCond .ge 7, 3) := by decide +kernel
theorem dX9_placeAt_10 : decode cX9_placeAt 10 = .ok (.iconst (-1), 1) := by decide +kernel
theorem dX9_placeAt_11 : decode cX9_placeAt 11 = .ok (.goto 7, 3) := by decide +kernel
theorem dX9_placeAt_14 : decode cX9_placeAt 14 = .ok (.iload_n 2, 1) := by decide +kernel
theorem dX9_placeAt_15 : decode cX9_placeAt 15 = .ok (.bipush 40, 2) := by decide +kernel
theorem dX9_placeAt_17 : decode cX9_placeAt 17 = .ok (.irem, 1) := by decide +kernel
theorem dX9_placeAt_18 : decode cX9_placeAt 18 = .ok (.ireturn, 1) := by decide +kernel
theorem dX9_commonAt_0 : decode cX9_commonAt 0 = .ok (.aload_n 0, 1) := by decide +kernel
theorem dX9_commonAt_1 : decode cX9_commonAt 1 = .ok (.iload_n 1, 1) := by decide +kernel
theorem dX9_commonAt_2 : decode cX9_commonAt 2 = .ok (.invokevirtual 73, 3) := by decide +kernel
theorem dX9_commonAt_5 : decode cX9_commonAt 5 = .ok (.ifCond .ge 7, 3) := by decide +kernel
theorem dX9_commonAt_8 : decode cX9_commonAt 8 = .ok (.iconst 0, 1) := by decide +kernel
theorem dX9_commonAt_9 : decode cX9_commonAt 9 = .ok (.goto 9, 3) := by decide +kernel
theorem dX9_commonAt_12 : decode cX9_commonAt 12 = .ok (.aload_n 0, 1) := by decide +kernel
theorem dX9_commonAt_13 : decode cX9_commonAt 13 = .ok (.getfield 25, 3) := by decide +kernel
theorem dX9_commonAt_16 : decode cX9_commonAt 16 = .ok (.iload_n 1, 1) := by decide +kernel
theorem dX9_commonAt_17 : decode cX9_commonAt 17 = .ok (.iaload, 1) := by decide +kernel
theorem dX9_commonAt_18 : decode cX9_commonAt 18 = .ok (.ireturn, 1) := by decide +kernel
theorem dX9_rankAt_0 : decode cX9_rankAt 0 = .ok (.aload_n 0, 1) := by decide +kernel
theorem dX9_rankAt_1 : decode cX9_rankAt 1 = .ok (.getfield 12, 3) := by decide +kernel
theorem dX9_rankAt_4 : decode cX9_rankAt 4 = .ok (.iload_n 1, 1) := by decide +kernel
theorem dX9_rankAt_5 : decode cX9_rankAt 5 = .ok (.iload_n 2, 1) := by decide +kernel
theorem dX9_rankAt_6 : decode cX9_rankAt 6 = .ok (.invokevirtual 76, 3) := by decide +kernel
theorem dX9_rankAt_9 : decode cX9_rankAt 9 = .ok (.ifCond .ne 7, 3) := by decide +kernel
theorem dX9_rankAt_12 : decode cX9_rankAt 12 = .ok (.iconst (-1), 1) := by decide +kernel
theorem dX9_rankAt_13 : decode cX9_rankAt 13 = .ok (.goto 14, 3) := by decide +kernel
theorem dX9_rankAt_16 : decode cX9_rankAt 16 = .ok (.aload_n 0, 1) := by decide +kernel
theorem dX9_rankAt_17 : decode cX9_rankAt 17 = .ok (.getfield 22, 3) := by decide +kernel
theorem dX9_rankAt_20 : decode cX9_rankAt 20 = .ok (.iload_n 1, 1) := by decide +kernel
theorem dX9_rankAt_21 : decode cX9_rankAt 21 = .ok (.bipush 40, 2) := by decide +kernel
theorem dX9_rankAt_23 : decode cX9_rankAt 23 = .ok (.imul, 1) := by decide +kernel
theorem dX9_rankAt_24 : decode cX9_rankAt 24 = .ok (.iload_n 2, 1) := by decide +kernel
theorem dX9_rankAt_25 : decode cX9_rankAt 25 = .ok (.iadd, 1) := by decide +kernel
theorem dX9_rankAt_26 : decode cX9_rankAt 26 = .ok (.iaload, 1) := by decide +kernel
theorem dX9_rankAt_27 : decode cX9_rankAt 27 = .ok (.ireturn, 1) := by decide +kernel
theorem dX9_turnedAt_0 : decode cX9_turnedAt 0 = .ok (.aload_n 0, 1) := by decide +kernel
theorem dX9_turnedAt_1 : decode cX9_turnedAt 1 = .ok (.iload_n 1, 1) := by decide +kernel
theorem dX9_turnedAt_2 : decode cX9_turnedAt 2 = .ok (.invokevirtual 57, 3) := by decide +kernel
theorem dX9_turnedAt_5 : decode cX9_turnedAt 5 = .ok (.istore_n 2, 1) := by decide +kernel
theorem dX9_turnedAt_6 : decode cX9_turnedAt 6 = .ok (.iload_n 2, 1) := by decide +kernel
theorem dX9_turnedAt_7 : decode cX9_turnedAt 7 = .ok (.ifCond .ne 8, 3) := by decide +kernel
theorem dX9_turnedAt_10 : decode cX9_turnedAt 10 = .ok (.bipush 36, 2) := by decide +kernel
theorem dX9_turnedAt_12 : decode cX9_turnedAt 12 = .ok (.goto 18, 3) := by decide +kernel
theorem dX9_turnedAt_15 : decode cX9_turnedAt 15 = .ok (.aload_n 0, 1) := by decide +kernel
theorem dX9_turnedAt_16 : decode cX9_turnedAt 16 = .ok (.getfield 12, 3) := by decide +kernel
theorem dX9_turnedAt_19 : decode cX9_turnedAt 19 = .ok (.aload_n 0, 1) := by decide +kernel
theorem dX9_turnedAt_20 : decode cX9_turnedAt 20 = .ok (.iload_n 1, 1) := by decide +kernel
theorem dX9_turnedAt_21 : decode cX9_turnedAt 21 = .ok (.invokevirtual 54, 3) := by decide +kernel
theorem dX9_turnedAt_24 : decode cX9_turnedAt 24 = .ok (.iload_n 2, 1) := by decide +kernel
theorem dX9_turnedAt_25 : decode cX9_turnedAt 25 = .ok (.iconst 1, 1) := by decide +kernel
theorem dX9_turnedAt_26 : decode cX9_turnedAt 26 = .ok (.isub, 1) := by decide +kernel
theorem dX9_turnedAt_27 : decode cX9_turnedAt 27 = .ok (.invokevirtual 76, 3) := by decide +kernel
theorem dX9_turnedAt_30 : decode cX9_turnedAt 30 = .ok (.ireturn, 1) := by decide +kernel
theorem dX9_runsOfTurned_0 : decode cX9_runsOfTurned 0 = .ok (.iconst 0, 1) := by decide +kernel
theorem dX9_runsOfTurned_1 : decode cX9_runsOfTurned 1 = .ok (.istore_n 1, 1) := by decide +kernel
theorem dX9_runsOfTurned_2 : decode cX9_runsOfTurned 2 = .ok (.iconst 0, 1) := by decide +kernel
theorem dX9_runsOfTurned_3 : decode cX9_runsOfTurned 3 = .ok (.istore_n 2, 1) := by decide +kernel
theorem dX9_runsOfTurned_4 : decode cX9_runsOfTurned 4 = .ok (.iload_n 2, 1) := by decide +kernel
theorem dX9_runsOfTurned_5 : decode cX9_runsOfTurned 5 = .ok (.aload_n 0, 1) := by decide +kernel
theorem dX9_runsOfTurned_6 : decode cX9_runsOfTurned 6 = .ok (.getfield 12, 3) := by decide +kernel
theorem dX9_runsOfTurned_9 : decode cX9_runsOfTurned 9 = .ok (.invokevirtual 80, 3) := by decide +kernel
theorem dX9_runsOfTurned_12 : decode cX9_runsOfTurned 12 = .ok (.if_icmp .ge 31, 3) := by decide +kernel
theorem dX9_runsOfTurned_15 : decode cX9_runsOfTurned 15 = .ok (.iload_n 2, 1) := by decide +kernel
theorem dX9_runsOfTurned_16 : decode cX9_runsOfTurned 16 = .ok (.ifCond .eq 18, 3) := by decide +kernel
theorem dX9_runsOfTurned_19 : decode cX9_runsOfTurned 19 = .ok (.aload_n 0, 1) := by decide +kernel
theorem dX9_runsOfTurned_20 : decode cX9_runsOfTurned 20 = .ok (.iload_n 2, 1) := by decide +kernel
theorem dX9_runsOfTurned_21 : decode cX9_runsOfTurned 21 = .ok (.invokevirtual 83, 3) := by decide +kernel
theorem dX9_runsOfTurned_24 : decode cX9_runsOfTurned 24 = .ok (.aload_n 0, 1) := by decide +kernel
theorem dX9_runsOfTurned_25 : decode cX9_runsOfTurned 25 = .ok (.iload_n 2, 1) := by decide +kernel
theorem dX9_runsOfTurned_26 : decode cX9_runsOfTurned 26 = .ok (.iconst 1, 1) := by decide +kernel
theorem dX9_runsOfTurned_27 : decode cX9_runsOfTurned 27 = .ok (.isub, 1) := by decide +kernel
theorem dX9_runsOfTurned_28 : decode cX9_runsOfTurned 28 = .ok (.invokevirtual 83, 3) := by decide +kernel
theorem dX9_runsOfTurned_31 : decode cX9_runsOfTurned 31 = .ok (.if_icmp .eq 6, 3) := by decide +kernel
theorem dX9_runsOfTurned_34 : decode cX9_runsOfTurned 34 = .ok (.iinc 1 1, 3) := by decide +kernel
theorem dX9_runsOfTurned_37 : decode cX9_runsOfTurned 37 = .ok (.iinc 2 1, 3) := by decide +kernel
theorem dX9_runsOfTurned_40 : decode cX9_runsOfTurned 40 = .ok (.goto (-36), 3) := by decide +kernel
theorem dX9_runsOfTurned_43 : decode cX9_runsOfTurned 43 = .ok (.iload_n 1, 1) := by decide +kernel
theorem dX9_runsOfTurned_44 : decode cX9_runsOfTurned 44 = .ok (.ireturn, 1) := by decide +kernel
theorem dX9_turnedAhead_0 : decode cX9_turnedAhead 0 = .ok (.iconst 0, 1) := by decide +kernel
theorem dX9_turnedAhead_1 : decode cX9_turnedAhead 1 = .ok (.istore_n 3, 1) := by decide +kernel
theorem dX9_turnedAhead_2 : decode cX9_turnedAhead 2 = .ok (.iconst 0, 1) := by decide +kernel
theorem dX9_turnedAhead_3 : decode cX9_turnedAhead 3 = .ok (.istore 4, 2) := by decide +kernel
theorem dX9_turnedAhead_5 : decode cX9_turnedAhead 5 = .ok (.iload 4, 2) := by decide +kernel
theorem dX9_turnedAhead_7 : decode cX9_turnedAhead 7 = .ok (.iload_n 2, 1) := by decide +kernel
theorem dX9_turnedAhead_8 : decode cX9_turnedAhead 8 = .ok (.if_icmp .ge 22, 3) := by decide +kernel
theorem dX9_turnedAhead_11 : decode cX9_turnedAhead 11 = .ok (.aload_n 0, 1) := by decide +kernel
theorem dX9_turnedAhead_12 : decode cX9_turnedAhead 12 = .ok (.iload 4, 2) := by decide +kernel
theorem dX9_turnedAhead_14 : decode cX9_turnedAhead 14 = .ok (.invokevirtual 83, 3) := by decide +kernel
theorem dX9_turnedAhead_17 : decode cX9_turnedAhead 17 = .ok (.iload_n 1, 1) := by decide +kernel
theorem dX9_turnedAhead_18 : decode cX9_turnedAhead 18 = .ok (.if_icmp .ne 6, 3) := by decide +kernel
theorem dX9_turnedAhead_21 : decode cX9_turnedAhead 21 = .ok (.iinc 3 1, 3) := by decide +kernel
theorem dX9_turnedAhead_24 : decode cX9_turnedAhead 24 = .ok (.iinc 4 1, 3) := by decide +kernel
theorem dX9_turnedAhead_27 : decode cX9_turnedAhead 27 = .ok (.goto (-22), 3) := by decide +kernel
theorem dX9_turnedAhead_30 : decode cX9_turnedAhead 30 = .ok (.iload_n 3, 1) := by decide +kernel
theorem dX9_turnedAhead_31 : decode cX9_turnedAhead 31 = .ok (.ireturn, 1) := by decide +kernel
theorem dX9_boundOf_0 : decode cX9_boundOf 0 = .ok (.iconst 0, 1) := by decide +kernel
theorem dX9_boundOf_1 : decode cX9_boundOf 1 = .ok (.istore 4, 2) := by decide +kernel
theorem dX9_boundOf_3 : decode cX9_boundOf 3 = .ok (.iconst 0, 1) := by decide +kernel
theorem dX9_boundOf_4 : decode cX9_boundOf 4 = .ok (.istore 5, 2) := by decide +kernel
theorem dX9_boundOf_6 : decode cX9_boundOf 6 = .ok (.iload 5, 2) := by decide +kernel
theorem dX9_boundOf_8 : decode cX9_boundOf 8 = .ok (.aload_n 0, 1) := by decide +kernel
theorem dX9_boundOf_9 : decode cX9_boundOf 9 = .ok (.getfield 12, 3) := by decide +kernel
theorem dX9_boundOf_12 : decode cX9_boundOf 12 = .ok (.invokevirtual 43, 3) := by decide +kernel
theorem dX9_boundOf_15 : decode cX9_boundOf 15 = .ok (.if_icmp .ge 64, 3) := by decide +kernel
theorem dX9_boundOf_18 : decode cX9_boundOf 18 = .ok (.iconst 0, 1) := by decide +kernel
theorem dX9_boundOf_19 : decode cX9_boundOf 19 = .ok (.istore 6, 2) := by decide +kernel
theorem dX9_boundOf_21 : decode cX9_boundOf 21 = .ok (.iload 6, 2) := by decide +kernel
theorem dX9_boundOf_23 : decode cX9_boundOf 23 = .ok (.aload_n 0, 1) := by decide +kernel
theorem dX9_boundOf_24 : decode cX9_boundOf 24 = .ok (.getfield 12, 3) := by decide +kernel
theorem dX9_boundOf_27 : decode cX9_boundOf 27 = .ok (.iload 5, 2) := by decide +kernel
theorem dX9_boundOf_29 : decode cX9_boundOf 29 = .ok (.invokevirtual 46, 3) := by decide +kernel
theorem dX9_boundOf_32 : decode cX9_boundOf 32 = .ok (.if_icmp .ge 41, 3) := by decide +kernel
theorem dX9_boundOf_35 : decode cX9_boundOf 35 = .ok (.aload_n 0, 1) := by decide +kernel
theorem dX9_boundOf_36 : decode cX9_boundOf 36 = .ok (.getfield 12, 3) := by decide +kernel
theorem dX9_boundOf_39 : decode cX9_boundOf 39 = .ok (.iload 5, 2) := by decide +kernel
theorem dX9_boundOf_41 : decode cX9_boundOf 41 = .ok (.iload 6, 2) := by decide +kernel
theorem dX9_boundOf_43 : decode cX9_boundOf 43 = .ok (.aload_n 1, 1) := by decide +kernel
theorem dX9_boundOf_44 : decode cX9_boundOf 44 = .ok (.iload_n 2, 1) := by decide +kernel
theorem dX9_boundOf_45 : decode cX9_boundOf 45 = .ok (.invokevirtual 87, 3) := by decide +kernel
theorem dX9_boundOf_48 : decode cX9_boundOf 48 = .ok (.istore 7, 2) := by decide +kernel
theorem dX9_boundOf_50 : decode cX9_boundOf 50 = .ok (.iload 7, 2) := by decide +kernel
theorem dX9_boundOf_52 : decode cX9_boundOf 52 = .ok (.ifCond .lt 12, 3) := by decide +kernel
theorem dX9_boundOf_55 : decode cX9_boundOf 55 = .ok (.iload 7, 2) := by decide +kernel
theorem dX9_boundOf_57 : decode cX9_boundOf 57 = .ok (.ifCond .ne 10, 3) := by decide +kernel
theorem dX9_boundOf_60 : decode cX9_boundOf 60 = .ok (.iload_n 3, 1) := by decide +kernel
theorem dX9_boundOf_61 : decode cX9_boundOf 61 = .ok (.ifCond .eq 6, 3) := by decide +kernel
theorem dX9_boundOf_64 : decode cX9_boundOf 64 = .ok (.iinc 4 1, 3) := by decide +kernel
theorem dX9_boundOf_67 : decode cX9_boundOf 67 = .ok (.iinc 6 1, 3) := by decide +kernel
theorem dX9_boundOf_70 : decode cX9_boundOf 70 = .ok (.goto (-49), 3) := by decide +kernel
theorem dX9_boundOf_73 : decode cX9_boundOf 73 = .ok (.iinc 5 1, 3) := by decide +kernel
theorem dX9_boundOf_76 : decode cX9_boundOf 76 = .ok (.goto (-70), 3) := by decide +kernel
theorem dX9_boundOf_79 : decode cX9_boundOf 79 = .ok (.iload 4, 2) := by decide +kernel
theorem dX9_boundOf_81 : decode cX9_boundOf 81 = .ok (.ireturn, 1) := by decide +kernel
theorem dX9_isInOrder_0 : decode cX9_isInOrder 0 = .ok (.aload_n 0, 1) := by decide +kernel
theorem dX9_isInOrder_1 : decode cX9_isInOrder 1 = .ok (.invokevirtual 122, 3) := by decide +kernel
theorem dX9_isInOrder_4 : decode cX9_isInOrder 4 = .ok (.iconst 0, 1) := by decide +kernel
theorem dX9_isInOrder_5 : decode cX9_isInOrder 5 = .ok (.istore_n 1, 1) := by decide +kernel
theorem dX9_isInOrder_6 : decode cX9_isInOrder 6 = .ok (.iconst 0, 1) := by decide +kernel
theorem dX9_isInOrder_7 : decode cX9_isInOrder 7 = .ok (.istore_n 2, 1) := by decide +kernel
theorem dX9_isInOrder_8 : decode cX9_isInOrder 8 = .ok (.iload_n 2, 1) := by decide +kernel
theorem dX9_isInOrder_9 : decode cX9_isInOrder 9 = .ok (.aload_n 0, 1) := by decide +kernel
theorem dX9_isInOrder_10 : decode cX9_isInOrder 10 = .ok (.getfield 32, 3) := by decide +kernel
theorem dX9_isInOrder_13 : decode cX9_isInOrder 13 = .ok (.if_icmp .ge 60, 3) := by decide +kernel
theorem dX9_isInOrder_16 : decode cX9_isInOrder 16 = .ok (.aload_n 0, 1) := by decide +kernel
theorem dX9_isInOrder_17 : decode cX9_isInOrder 17 = .ok (.iload_n 2, 1) := by decide +kernel
theorem dX9_isInOrder_18 : decode cX9_isInOrder 18 = .ok (.invokevirtual 54, 3) := by decide +kernel
theorem dX9_isInOrder_21 : decode cX9_isInOrder 21 = .ok (.istore_n 3, 1) := by decide +kernel
theorem dX9_isInOrder_22 : decode cX9_isInOrder 22 = .ok (.aload_n 0, 1) := by decide +kernel
theorem dX9_isInOrder_23 : decode cX9_isInOrder 23 = .ok (.iload_n 2, 1) := by decide +kernel
theorem dX9_isInOrder_24 : decode cX9_isInOrder 24 = .ok (.invokevirtual 57, 3) := by decide +kernel
theorem dX9_isInOrder_27 : decode cX9_isInOrder 27 = .ok (.istore 4, 2) := by decide +kernel
theorem dX9_isInOrder_29 : decode cX9_isInOrder 29 = .ok (.aload_n 0, 1) := by decide +kernel
theorem dX9_isInOrder_30 : decode cX9_isInOrder 30 = .ok (.iload_n 3, 1) := by decide +kernel
theorem dX9_isInOrder_31 : decode cX9_isInOrder 31 = .ok (.iload 4, 2) := by decide +kernel
theorem dX9_isInOrder_33 : decode cX9_isInOrder 33 = .ok (.invokevirtual 119, 3) := by decide +kernel
theorem dX9_isInOrder_36 : decode cX9_isInOrder 36 = .ok (.iload_n 2, 1) := by decide +kernel
theorem dX9_isInOrder_37 : decode cX9_isInOrder 37 = .ok (.if_icmp .ne 15, 3) := by decide +kernel
theorem dX9_isInOrder_40 : decode cX9_isInOrder 40 = .ok (.iload_n 2, 1) := by decide +kernel
theorem dX9_isInOrder_41 : decode cX9_isInOrder 41 = .ok (.ifCond .le 13, 3) := by decide +kernel
theorem dX9_isInOrder_44 : decode cX9_isInOrder 44 = .ok (.aload_n 0, 1) := by decide +kernel
theorem dX9_isInOrder_45 : decode cX9_isInOrder 45 = .ok (.iload_n 2, 1) := by decide +kernel
theorem dX9_isInOrder_46 : decode cX9_isInOrder 46 = .ok (.invokevirtual 125, 3) := by decide +kernel
theorem dX9_isInOrder_49 : decode cX9_isInOrder 49 = .ok (.ifCond .ne 5, 3) := by decide +kernel
theorem dX9_isInOrder_52 : decode cX9_isInOrder 52 = .ok (.iconst 0, 1) := by decide +kernel
theorem dX9_isInOrder_53 : decode cX9_isInOrder 53 = .ok (.ireturn, 1) := by decide +kernel
theorem dX9_isInOrder_54 : decode cX9_isInOrder 54 = .ok (.aload_n 0, 1) := by decide +kernel
theorem dX9_isInOrder_55 : decode cX9_isInOrder 55 = .ok (.iload_n 2, 1) := by decide +kernel
theorem dX9_isInOrder_56 : decode cX9_isInOrder 56 = .ok (.invokevirtual 83, 3) := by decide +kernel
theorem dX9_isInOrder_59 : decode cX9_isInOrder 59 = .ok (.bipush 36, 2) := by decide +kernel
theorem dX9_isInOrder_61 : decode cX9_isInOrder 61 = .ok (.if_icmp .ne 6, 3) := by decide +kernel
theorem dX9_isInOrder_64 : decode cX9_isInOrder 64 = .ok (.iinc 1 1, 3) := by decide +kernel
theorem dX9_isInOrder_67 : decode cX9_isInOrder 67 = .ok (.iinc 2 1, 3) := by decide +kernel
theorem dX9_isInOrder_70 : decode cX9_isInOrder 70 = .ok (.goto (-62), 3) := by decide +kernel
theorem dX9_isInOrder_73 : decode cX9_isInOrder 73 = .ok (.aload_n 0, 1) := by decide +kernel
theorem dX9_isInOrder_74 : decode cX9_isInOrder 74 = .ok (.getfield 32, 3) := by decide +kernel
theorem dX9_isInOrder_77 : decode cX9_isInOrder 77 = .ok (.aload_n 0, 1) := by decide +kernel
theorem dX9_isInOrder_78 : decode cX9_isInOrder 78 = .ok (.getfield 12, 3) := by decide +kernel
theorem dX9_isInOrder_81 : decode cX9_isInOrder 81 = .ok (.invokevirtual 80, 3) := by decide +kernel
theorem dX9_isInOrder_84 : decode cX9_isInOrder 84 = .ok (.if_icmp .ne 18, 3) := by decide +kernel
theorem dX9_isInOrder_87 : decode cX9_isInOrder 87 = .ok (.iload_n 1, 1) := by decide +kernel
theorem dX9_isInOrder_88 : decode cX9_isInOrder 88 = .ok (.aload_n 0, 1) := by decide +kernel
theorem dX9_isInOrder_89 : decode cX9_isInOrder 89 = .ok (.getfield 12, 3) := by decide +kernel
theorem dX9_isInOrder_92 : decode cX9_isInOrder 92 = .ok (.invokevirtual 43, 3) := by decide +kernel
theorem dX9_isInOrder_95 : decode cX9_isInOrder 95 = .ok (.if_icmp .ne 7, 3) := by decide +kernel
theorem dX9_isInOrder_98 : decode cX9_isInOrder 98 = .ok (.iconst 1, 1) := by decide +kernel
theorem dX9_isInOrder_99 : decode cX9_isInOrder 99 = .ok (.goto 4, 3) := by decide +kernel
theorem dX9_isInOrder_102 : decode cX9_isInOrder 102 = .ok (.iconst 0, 1) := by decide +kernel
theorem dX9_isInOrder_103 : decode cX9_isInOrder 103 = .ok (.ireturn, 1) := by decide +kernel
theorem dX9_isRising_0 : decode cX9_isRising 0 = .ok (.aload_n 0, 1) := by decide +kernel
theorem dX9_isRising_1 : decode cX9_isRising 1 = .ok (.getfield 12, 3) := by decide +kernel
theorem dX9_isRising_4 : decode cX9_isRising 4 = .ok (.aload_n 0, 1) := by decide +kernel
theorem dX9_isRising_5 : decode cX9_isRising 5 = .ok (.iload_n 1, 1) := by decide +kernel
theorem dX9_isRising_6 : decode cX9_isRising 6 = .ok (.iconst 1, 1) := by decide +kernel
theorem dX9_isRising_7 : decode cX9_isRising 7 = .ok (.isub, 1) := by decide +kernel
theorem dX9_isRising_8 : decode cX9_isRising 8 = .ok (.invokevirtual 54, 3) := by decide +kernel
theorem dX9_isRising_11 : decode cX9_isRising 11 = .ok (.aload_n 0, 1) := by decide +kernel
theorem dX9_isRising_12 : decode cX9_isRising 12 = .ok (.iload_n 1, 1) := by decide +kernel
theorem dX9_isRising_13 : decode cX9_isRising 13 = .ok (.iconst 1, 1) := by decide +kernel
theorem dX9_isRising_14 : decode cX9_isRising 14 = .ok (.isub, 1) := by decide +kernel
theorem dX9_isRising_15 : decode cX9_isRising 15 = .ok (.invokevirtual 57, 3) := by decide +kernel
theorem dX9_isRising_18 : decode cX9_isRising 18 = .ok (.aload_n 0, 1) := by decide +kernel
theorem dX9_isRising_19 : decode cX9_isRising 19 = .ok (.iload_n 1, 1) := by decide +kernel
theorem dX9_isRising_20 : decode cX9_isRising 20 = .ok (.invokevirtual 54, 3) := by decide +kernel
theorem dX9_isRising_23 : decode cX9_isRising 23 = .ok (.aload_n 0, 1) := by decide +kernel
theorem dX9_isRising_24 : decode cX9_isRising 24 = .ok (.iload_n 1, 1) := by decide +kernel
theorem dX9_isRising_25 : decode cX9_isRising 25 = .ok (.invokevirtual 57, 3) := by decide +kernel
theorem dX9_isRising_28 : decode cX9_isRising 28 = .ok (.invokevirtual 64, 3) := by decide +kernel
theorem dX9_isRising_31 : decode cX9_isRising 31 = .ok (.ifCond .ge 7, 3) := by decide +kernel
theorem dX9_isRising_34 : decode cX9_isRising 34 = .ok (.iconst 1, 1) := by decide +kernel
theorem dX9_isRising_35 : decode cX9_isRising 35 = .ok (.goto 4, 3) := by decide +kernel
theorem dX9_isRising_38 : decode cX9_isRising 38 = .ok (.iconst 0, 1) := by decide +kernel
theorem dX9_isRising_39 : decode cX9_isRising 39 = .ok (.ireturn, 1) := by decide +kernel
theorem dX10_init_0 : decode cX10_init 0 = .ok (.aload_n 0, 1) := by decide +kernel
theorem dX10_init_1 : decode cX10_init 1 = .ok (.invokespecial 3, 3) := by decide +kernel
theorem dX10_init_4 : decode cX10_init 4 = .ok (.aload_n 0, 1) := by decide +kernel
theorem dX10_init_5 : decode cX10_init 5 = .ok (.new 9, 3) := by decide +kernel
theorem dX10_init_8 : decode cX10_init 8 = .ok (.dup, 1) := by decide +kernel
theorem dX10_init_9 : decode cX10_init 9 = .ok (.invokespecial 11, 3) := by decide +kernel
theorem dX10_init_12 : decode cX10_init 12 = .ok (.putfield 12, 3) := by decide +kernel
theorem dX10_init_15 : decode cX10_init 15 = .ok (.aload_n 0, 1) := by decide +kernel
theorem dX10_init_16 : decode cX10_init 16 = .ok (.new 16, 3) := by decide +kernel
theorem dX10_init_19 : decode cX10_init 19 = .ok (.dup, 1) := by decide +kernel
theorem dX10_init_20 : decode cX10_init 20 = .ok (.invokespecial 18, 3) := by decide +kernel
theorem dX10_init_23 : decode cX10_init 23 = .ok (.putfield 19, 3) := by decide +kernel
theorem dX10_init_26 : decode cX10_init 26 = .ok (.aload_n 0, 1) := by decide +kernel
theorem dX10_init_27 : decode cX10_init 27 = .ok (.new 16, 3) := by decide +kernel
theorem dX10_init_30 : decode cX10_init 30 = .ok (.dup, 1) := by decide +kernel
theorem dX10_init_31 : decode cX10_init 31 = .ok (.invokespecial 18, 3) := by decide +kernel
theorem dX10_init_34 : decode cX10_init 34 = .ok (.putfield 23, 3) := by decide +kernel
theorem dX10_init_37 : decode cX10_init 37 = .ok (.aload_n 0, 1) := by decide +kernel
theorem dX10_init_38 : decode cX10_init 38 = .ok (.new 26, 3) := by decide +kernel
theorem dX10_init_41 : decode cX10_init 41 = .ok (.dup, 1) := by decide +kernel
theorem dX10_init_42 : decode cX10_init 42 = .ok (.invokespecial 28, 3) := by decide +kernel
theorem dX10_init_45 : decode cX10_init 45 = .ok (.putfield 29, 3) := by decide +kernel
theorem dX10_init_48 : decode cX10_init 48 = .ok (.aload_n 0, 1) := by decide +kernel
theorem dX10_init_49 : decode cX10_init 49 = .ok (.new 33, 3) := by decide +kernel
theorem dX10_init_52 : decode cX10_init 52 = .ok (.dup, 1) := by decide +kernel
theorem dX10_init_53 : decode cX10_init 53 = .ok (.invokespecial 35, 3) := by decide +kernel
theorem dX10_init_56 : decode cX10_init 56 = .ok (.putfield 36, 3) := by decide +kernel
theorem dX10_init_59 : decode cX10_init 59 = .ok (.aload_n 0, 1) := by decide +kernel
theorem dX10_init_60 : decode cX10_init 60 = .ok (.new 40, 3) := by decide +kernel
theorem dX10_init_63 : decode cX10_init 63 = .ok (.dup, 1) := by decide +kernel
theorem dX10_init_64 : decode cX10_init 64 = .ok (.invokespecial 42, 3) := by decide +kernel
theorem dX10_init_67 : decode cX10_init 67 = .ok (.putfield 43, 3) := by decide +kernel
theorem dX10_init_70 : decode cX10_init 70 = .ok (.aload_n 0, 1) := by decide +kernel
theorem dX10_init_71 : decode cX10_init 71 = .ok (.new 47, 3) := by decide +kernel
theorem dX10_init_74 : decode cX10_init 74 = .ok (.dup, 1) := by decide +kernel
theorem dX10_init_75 : decode cX10_init 75 = .ok (.invokespecial 49, 3) := by decide +kernel
theorem dX10_init_78 : decode cX10_init 78 = .ok (.putfield 50, 3) := by decide +kernel
theorem dX10_init_81 : decode cX10_init 81 = .ok (.return_, 1) := by decide +kernel
theorem dX10_type_0 : decode cX10_type 0 = .ok (.iload_n 1, 1) := by decide +kernel
theorem dX10_type_1 : decode cX10_type 1 = .ok (.invokestatic 54, 3) := by decide +kernel
theorem dX10_type_4 : decode cX10_type 4 = .ok (.ifCond .ne 13, 3) := by decide +kernel
theorem dX10_type_7 : decode cX10_type 7 = .ok (.new 58, 3) := by decide +kernel
theorem dX10_type_10 : decode cX10_type 10 = .ok (.dup, 1) := by decide +kernel
theorem dX10_type_11 : decode cX10_type 11 = .ok (.ldc 60, 2) := by decide +kernel
theorem dX10_type_13 : decode cX10_type 13 = .ok (.invokespecial 62, 3) := by decide +kernel
theorem dX10_type_16 : decode cX10_type 16 = .ok (.athrow, 1) := by decide +kernel
theorem dX10_type_17 : decode cX10_type 17 = .ok (.aload_n 0, 1) := by decide +kernel
theorem dX10_type_18 : decode cX10_type 18 = .ok (.getfield 12, 3) := by decide +kernel
theorem dX10_type_21 : decode cX10_type 21 = .ok (.invokevirtual 65, 3) := by decide +kernel
theorem dX10_type_24 : decode cX10_type 24 = .ok (.bipush 20, 2) := by decide +kernel
theorem dX10_type_26 : decode cX10_type 26 = .ok (.if_icmp .lt 13, 3) := by decide +kernel
theorem dX10_type_29 : decode cX10_type 29 = .ok (.new 69, 3) := by decide +kernel
theorem dX10_type_32 : decode cX10_type 32 = .ok (.dup, 1) := by decide +kernel
theorem dX10_type_33 : decode cX10_type 33 = .ok (.ldc 71, 2) := by decide +kernel
theorem dX10_type_35 : decode cX10_type 35 = .ok (.invokespecial 73, 3) := by decide +kernel
theorem dX10_type_38 : decode cX10_type 38 = .ok (.athrow, 1) := by decide +kernel
theorem dX10_type_39 : decode cX10_type 39 = .ok (.aload_n 0, 1) := by decide +kernel
theorem dX10_type_40 : decode cX10_type 40 = .ok (.getfield 12, 3) := by decide +kernel
theorem dX10_type_43 : decode cX10_type 43 = .ok (.iload_n 1, 1) := by decide +kernel
theorem dX10_type_44 : decode cX10_type 44 = .ok (.invokevirtual 74, 3) := by decide +kernel
theorem dX10_type_47 : decode cX10_type 47 = .ok (.aload_n 0, 1) := by decide +kernel
theorem dX10_type_48 : decode cX10_type 48 = .ok (.getfield 12, 3) := by decide +kernel
theorem dX10_type_51 : decode cX10_type 51 = .ok (.invokevirtual 65, 3) := by decide +kernel
theorem dX10_type_54 : decode cX10_type 54 = .ok (.ireturn, 1) := by decide +kernel
theorem dX10_wipe_0 : decode cX10_wipe 0 = .ok (.aload_n 0, 1) := by decide +kernel
theorem dX10_wipe_1 : decode cX10_wipe 1 = .ok (.getfield 12, 3) := by decide +kernel
theorem dX10_wipe_4 : decode cX10_wipe 4 = .ok (.invokevirtual 65, 3) := by decide +kernel
theorem dX10_wipe_7 : decode cX10_wipe 7 = .ok (.istore_n 1, 1) := by decide +kernel
theorem dX10_wipe_8 : decode cX10_wipe 8 = .ok (.aload_n 0, 1) := by decide +kernel
theorem dX10_wipe_9 : decode cX10_wipe 9 = .ok (.getfield 12, 3) := by decide +kernel
theorem dX10_wipe_12 : decode cX10_wipe 12 = .ok (.invokevirtual 78, 3) := by decide +kernel
theorem dX10_wipe_15 : decode cX10_wipe 15 = .ok (.iload_n 1, 1) := by decide +kernel
theorem dX10_wipe_16 : decode cX10_wipe 16 = .ok (.ireturn, 1) := by decide +kernel
theorem dX10_add_0 : decode cX10_add 0 = .ok (.aload_n 0, 1) := by decide +kernel
theorem dX10_add_1 : decode cX10_add 1 = .ok (.invokevirtual 81, 3) := by decide +kernel
theorem dX10_add_4 : decode cX10_add 4 = .ok (.aload_n 0, 1) := by decide +kernel
theorem dX10_add_5 : decode cX10_add 5 = .ok (.getfield 19, 3) := by decide +kernel
theorem dX10_add_8 : decode cX10_add 8 = .ok (.invokevirtual 84, 3) := by decide +kernel
theorem dX10_add_11 : decode cX10_add 11 = .ok (.ifCond .ne 13, 3) := by decide +kernel
theorem dX10_add_14 : decode cX10_add 14 = .ok (.new 69, 3) := by decide +kernel
theorem dX10_add_17 : decode cX10_add 17 = .ok (.dup, 1) := by decide +kernel
theorem dX10_add_18 : decode cX10_add 18 = .ok (.ldc 88, 2) := by decide +kernel
theorem dX10_add_20 : decode cX10_add 20 = .ok (.invokespecial 73, 3) := by decide +kernel
theorem dX10_add_23 : decode cX10_add 23 = .ok (.athrow, 1) := by decide +kernel
theorem dX10_add_24 : decode cX10_add 24 = .ok (.aload_n 0, 1) := by decide +kernel
theorem dX10_add_25 : decode cX10_add 25 = .ok (.getfield 19, 3) := by decide +kernel
theorem dX10_add_28 : decode cX10_add 28 = .ok (.aload_n 0, 1) := by decide +kernel
theorem dX10_add_29 : decode cX10_add 29 = .ok (.getfield 12, 3) := by decide +kernel
theorem dX10_add_32 : decode cX10_add 32 = .ok (.invokevirtual 90, 3) := by decide +kernel
theorem dX10_add_35 : decode cX10_add 35 = .ok (.istore_n 1, 1) := by decide +kernel
theorem dX10_add_36 : decode cX10_add 36 = .ok (.aload_n 0, 1) := by decide +kernel
theorem dX10_add_37 : decode cX10_add 37 = .ok (.getfield 12, 3) := by decide +kernel
theorem dX10_add_40 : decode cX10_add 40 = .ok (.invokevirtual 78, 3) := by decide +kernel
theorem dX10_add_43 : decode cX10_add 43 = .ok (.aload_n 0, 1) := by decide +kernel
theorem dX10_add_44 : decode cX10_add 44 = .ok (.dup, 1) := by decide +kernel
theorem dX10_add_45 : decode cX10_add 45 = .ok (.getfield 94, 3) := by decide +kernel
theorem dX10_add_48 : decode cX10_add 48 = .ok (.iconst 1, 1) := by decide +kernel
theorem dX10_add_49 : decode cX10_add 49 = .ok (.iadd, 1) := by decide +kernel
theorem dX10_add_50 : decode cX10_add 50 = .ok (.putfield 94, 3) := by decide +kernel
theorem dX10_add_53 : decode cX10_add 53 = .ok (.iload_n 1, 1) := by decide +kernel
theorem dX10_add_54 : decode cX10_add 54 = .ok (.ireturn, 1) := by decide +kernel
theorem dX10_insert_0 : decode cX10_insert 0 = .ok (.aload_n 0, 1) := by decide +kernel
theorem dX10_insert_1 : decode cX10_insert 1 = .ok (.getfield 19, 3) := by decide +kernel
theorem dX10_insert_4 : decode cX10_insert 4 = .ok (.invokevirtual 98, 3) := by decide +kernel
theorem dX10_insert_7 : decode cX10_insert 7 = .ok (.invokevirtual 102, 3) := by decide +kernel
theorem dX10_insert_10 : decode cX10_insert 10 = .ok (.astore_n 3, 1) := by decide +kernel
theorem dX10_insert_11 : decode cX10_insert 11 = .ok (.aload_n 3, 1) := by decide +kernel
theorem dX10_insert_12 : decode cX10_insert 12 = .ok (.iload_n 1, 1) := by decide +kernel
theorem dX10_insert_13 : decode cX10_insert 13 = .ok (.invokestatic 108, 3) := by decide +kernel
theorem dX10_insert_16 : decode cX10_insert 16 = .ok (.istore 4, 2) := by decide +kernel
theorem dX10_insert_18 : decode cX10_insert 18 = .ok (.aload_n 0, 1) := by decide +kernel
theorem dX10_insert_19 : decode cX10_insert 19 = .ok (.invokevirtual 81, 3) := by decide +kernel
theorem dX10_insert_22 : decode cX10_insert 22 = .ok (.aload_n 3, 1) := by decide +kernel
theorem dX10_insert_23 : decode cX10_insert 23 = .ok (.iload 4, 2) := by decide +kernel
theorem dX10_insert_25 : decode cX10_insert 25 = .ok (.invokevirtual 112, 3) := by decide +kernel
theorem dX10_insert_28 : decode cX10_insert 28 = .ok (.istore 5, 2) := by decide +kernel
theorem dX10_insert_30 : decode cX10_insert 30 = .ok (.iload_n 2, 1) := by decide +kernel
theorem dX10_insert_31 : decode cX10_insert 31 = .ok (.ifCond .lt 24, 3) := by decide +kernel
theorem dX10_insert_34 : decode cX10_insert 34 = .ok (.iload_n 2, 1) := by decide +kernel
theorem dX10_insert_35 : decode cX10_insert 35 = .ok (.iload 5, 2) := by decide +kernel
theorem dX10_insert_37 : decode cX10_insert 37 = .ok (.if_icmp .gt 18, 3) := by decide +kernel
theorem dX10_insert_40 : decode cX10_insert 40 = .ok (.iload 5, 2) := by decide +kernel
theorem dX10_insert_42 : decode cX10_insert 42 = .ok (.aload_n 0, 1) := by decide +kernel
theorem dX10_insert_43 : decode cX10_insert 43 = .ok (.getfield 12, 3) := by decide +kernel
theorem dX10_insert_46 : decode cX10_insert 46 = .ok (.invokevirtual 65, 3) := by decide +kernel
theorem dX10_insert_49 : decode cX10_insert 49 = .ok (.iadd, 1) := by decide +kernel
theorem dX10_insert_50 : decode cX10_insert 50 = .ok (.bipush 40, 2) := by decide +kernel
theorem dX10_insert_52 : decode cX10_insert 52 = .ok (.if_icmp .le 13, 3) := by decide +kernel
theorem dX10_insert_55 : decode cX10_insert 55 = .ok (.new 58, 3) := by decide +kernel
theorem dX10_insert_58 : decode cX10_insert 58 = .ok (.dup, 1) := by decide +kernel
theorem dX10_insert_59 : decode cX10_insert 59 = .ok (.ldc 118, 2) := by decide +kernel
theorem dX10_insert_61 : decode cX10_insert 61 = .ok (.invokespecial 62, 3) := by decide +kernel
theorem dX10_insert_64 : decode cX10_insert 64 = .ok (.athrow, 1) := by decide +kernel
theorem dX10_insert_65 : decode cX10_insert 65 = .ok (.aload_n 0, 1) := by decide +kernel
theorem dX10_insert_66 : decode cX10_insert 66 = .ok (.getfield 19, 3) := by decide +kernel
theorem dX10_insert_69 : decode cX10_insert 69 = .ok (.iload 4, 2) := by decide +kernel
theorem dX10_insert_71 : decode cX10_insert 71 = .ok (.iload_n 2, 1) := by decide +kernel
theorem dX10_insert_72 : decode cX10_insert 72 = .ok (.aload_n 0, 1) := by decide +kernel
theorem dX10_insert_73 : decode cX10_insert 73 = .ok (.getfield 12, 3) := by decide +kernel
theorem dX10_insert_76 : decode cX10_insert 76 = .ok (.invokevirtual 120, 3) := by decide +kernel
theorem dX10_insert_79 : decode cX10_insert 79 = .ok (.aload_n 0, 1) := by decide +kernel
theorem dX10_insert_80 : decode cX10_insert 80 = .ok (.getfield 12, 3) := by decide +kernel
theorem dX10_insert_83 : decode cX10_insert 83 = .ok (.invokevirtual 78, 3) := by decide +kernel
theorem dX10_insert_86 : decode cX10_insert 86 = .ok (.aload_n 0, 1) := by decide +kernel
theorem dX10_insert_87 : decode cX10_insert 87 = .ok (.dup, 1) := by decide +kernel
theorem dX10_insert_88 : decode cX10_insert 88 = .ok (.getfield 94, 3) := by decide +kernel
theorem dX10_insert_91 : decode cX10_insert 91 = .ok (.iconst 1, 1) := by decide +kernel
theorem dX10_insert_92 : decode cX10_insert 92 = .ok (.iadd, 1) := by decide +kernel
theorem dX10_insert_93 : decode cX10_insert 93 = .ok (.putfield 94, 3) := by decide +kernel
theorem dX10_insert_96 : decode cX10_insert 96 = .ok (.aload_n 3, 1) := by decide +kernel
theorem dX10_insert_97 : decode cX10_insert 97 = .ok (.iload 4, 2) := by decide +kernel
theorem dX10_insert_99 : decode cX10_insert 99 = .ok (.invokevirtual 112, 3) := by decide +kernel
theorem dX10_insert_102 : decode cX10_insert 102 = .ok (.ireturn, 1) := by decide +kernel
theorem dX10_documents_0 : decode cX10_documents 0 = .ok (.aload_n 0, 1) := by decide +kernel
theorem dX10_documents_1 : decode cX10_documents 1 = .ok (.iload_n 1, 1) := by decide +kernel
theorem dX10_documents_2 : decode cX10_documents 2 = .ok (.invokevirtual 137, 3) := by decide +kernel
theorem dX10_documents_5 : decode cX10_documents 5 = .ok (.invokevirtual 102, 3) := by decide +kernel
theorem dX10_documents_8 : decode cX10_documents 8 = .ok (.invokevirtual 134, 3) := by decide +kernel
theorem dX10_documents_11 : decode cX10_documents 11 = .ok (.ireturn, 1) := by decide +kernel
theorem dX10_lengthOf_0 : decode cX10_lengthOf 0 = .ok (.aload_n 0, 1) := by decide +kernel
theorem dX10_lengthOf_1 : decode cX10_lengthOf 1 = .ok (.iload_n 1, 1) := by decide +kernel
theorem dX10_lengthOf_2 : decode cX10_lengthOf 2 = .ok (.invokevirtual 137, 3) := by decide +kernel
theorem dX10_lengthOf_5 : decode cX10_lengthOf 5 = .ok (.invokevirtual 102, 3) := by decide +kernel
theorem dX10_lengthOf_8 : decode cX10_lengthOf 8 = .ok (.astore_n 3, 1) := by decide +kernel
theorem dX10_lengthOf_9 : decode cX10_lengthOf 9 = .ok (.aload_n 3, 1) := by decide +kernel
theorem dX10_lengthOf_10 : decode cX10_lengthOf 10 = .ok (.aload_n 3, 1) := by decide +kernel
theorem dX10_lengthOf_11 : decode cX10_lengthOf 11 = .ok (.iload_n 2, 1) := by decide +kernel
theorem dX10_lengthOf_12 : decode cX10_lengthOf 12 = .ok (.invokestatic 108, 3) := by decide +kernel
theorem dX10_lengthOf_15 : decode cX10_lengthOf 15 = .ok (.invokevirtual 112, 3) := by decide +kernel
theorem dX10_lengthOf_18 : decode cX10_lengthOf 18 = .ok (.ireturn, 1) := by decide +kernel
theorem dX10_snapshot_0 : decode cX10_snapshot 0 = .ok (.aload_n 0, 1) := by decide +kernel
theorem dX10_snapshot_1 : decode cX10_snapshot 1 = .ok (.getfield 19, 3) := by decide +kernel
theorem dX10_snapshot_4 : decode cX10_snapshot 4 = .ok (.invokevirtual 152, 3) := by decide +kernel
theorem dX10_snapshot_7 : decode cX10_snapshot 7 = .ok (.ifCond .ne 13, 3) := by decide +kernel
theorem dX10_snapshot_10 : decode cX10_snapshot 10 = .ok (.new 69, 3) := by decide +kernel
theorem dX10_snapshot_13 : decode cX10_snapshot 13 = .ok (.dup, 1) := by decide +kernel
theorem dX10_snapshot_14 : decode cX10_snapshot 14 = .ok (.ldc 155, 2) := by decide +kernel
theorem dX10_snapshot_16 : decode cX10_snapshot 16 = .ok (.invokespecial 73, 3) := by decide +kernel
theorem dX10_snapshot_19 : decode cX10_snapshot 19 = .ok (.athrow, 1) := by decide +kernel
theorem dX10_snapshot_20 : decode cX10_snapshot 20 = .ok (.aload_n 0, 1) := by decide +kernel
theorem dX10_snapshot_21 : decode cX10_snapshot 21 = .ok (.getfield 19, 3) := by decide +kernel
theorem dX10_snapshot_24 : decode cX10_snapshot 24 = .ok (.invokevirtual 157, 3) := by decide +kernel
theorem dX10_snapshot_27 : decode cX10_snapshot 27 = .ok (.istore_n 1, 1) := by decide +kernel
theorem dX10_snapshot_28 : decode cX10_snapshot 28 = .ok (.aload_n 0, 1) := by decide +kernel
theorem dX10_snapshot_29 : decode cX10_snapshot 29 = .ok (.dup, 1) := by decide +kernel
theorem dX10_snapshot_30 : decode cX10_snapshot 30 = .ok (.getfield 94, 3) := by decide +kernel
theorem dX10_snapshot_33 : decode cX10_snapshot 33 = .ok (.iconst 1, 1) := by decide +kernel
theorem dX10_snapshot_34 : decode cX10_snapshot 34 = .ok (.iadd, 1) := by decide +kernel
theorem dX10_snapshot_35 : decode cX10_snapshot 35 = .ok (.putfield 94, 3) := by decide +kernel
theorem dX10_snapshot_38 : decode cX10_snapshot 38 = .ok (.iload_n 1, 1) := by decide +kernel
theorem dX10_snapshot_39 : decode cX10_snapshot 39 = .ok (.ireturn, 1) := by decide +kernel
theorem dX10_suffixAt_0 : decode cX10_suffixAt 0 = .ok (.aload_n 0, 1) := by decide +kernel
theorem dX10_suffixAt_1 : decode cX10_suffixAt 1 = .ok (.iload_n 1, 1) := by decide +kernel
theorem dX10_suffixAt_2 : decode cX10_suffixAt 2 = .ok (.invokevirtual 178, 3) := by decide +kernel
theorem dX10_suffixAt_5 : decode cX10_suffixAt 5 = .ok (.astore 4, 2) := by decide +kernel
theorem dX10_suffixAt_7 : decode cX10_suffixAt 7 = .ok (.aload 4, 2) := by decide +kernel
theorem dX10_suffixAt_9 : decode cX10_suffixAt 9 = .ok (.iload_n 2, 1) := by decide +kernel
theorem dX10_suffixAt_10 : decode cX10_suffixAt 10 = .ok (.invokestatic 181, 3) := by decide +kernel
theorem dX10_suffixAt_13 : decode cX10_suffixAt 13 = .ok (.iload_n 3, 1) := by decide +kernel
theorem dX10_suffixAt_14 : decode cX10_suffixAt 14 = .ok (.bipush 100, 2) := by decide +kernel
theorem dX10_suffixAt_16 : decode cX10_suffixAt 16 = .ok (.if_icmp .ne 18, 3) := by decide +kernel
theorem dX10_suffixAt_19 : decode cX10_suffixAt 19 = .ok (.aload 4, 2) := by decide +kernel
theorem dX10_suffixAt_21 : decode cX10_suffixAt 21 = .ok (.invokevirtual 102, 3) := by decide +kernel
theorem dX10_suffixAt_24 : decode cX10_suffixAt 24 = .ok (.aload 4, 2) := by decide +kernel
theorem dX10_suffixAt_26 : decode cX10_suffixAt 26 = .ok (.iload_n 2, 1) := by decide +kernel
theorem dX10_suffixAt_27 : decode cX10_suffixAt 27 = .ok (.invokevirtual 185, 3) := by decide +kernel
theorem dX10_suffixAt_30 : decode cX10_suffixAt 30 = .ok (.invokevirtual 188, 3) := by decide +kernel
theorem dX10_suffixAt_33 : decode cX10_suffixAt 33 = .ok (.ireturn, 1) := by decide +kernel
theorem dX10_suffixAt_34 : decode cX10_suffixAt 34 = .ok (.iload_n 3, 1) := by decide +kernel
theorem dX10_suffixAt_35 : decode cX10_suffixAt 35 = .ok (.bipush 112, 2) := by decide +kernel
theorem dX10_suffixAt_37 : decode cX10_suffixAt 37 = .ok (.if_icmp .ne 10, 3) := by decide +kernel
theorem dX10_suffixAt_40 : decode cX10_suffixAt 40 = .ok (.aload 4, 2) := by decide +kernel
theorem dX10_suffixAt_42 : decode cX10_suffixAt 42 = .ok (.iload_n 2, 1) := by decide +kernel
theorem dX10_suffixAt_43 : decode cX10_suffixAt 43 = .ok (.invokevirtual 191, 3) := by decide +kernel
theorem dX10_suffixAt_46 : decode cX10_suffixAt 46 = .ok (.ireturn, 1) := by decide +kernel
theorem dX10_suffixAt_47 : decode cX10_suffixAt 47 = .ok (.iload_n 3, 1) := by decide +kernel
theorem dX10_suffixAt_48 : decode cX10_suffixAt 48 = .ok (.bipush 108, 2) := by decide +kernel
theorem dX10_suffixAt_50 : decode cX10_suffixAt 50 = .ok (.if_icmp .ne 10, 3) := by decide +kernel
theorem dX10_suffixAt_53 : decode cX10_suffixAt 53 = .ok (.aload 4, 2) := by decide +kernel
theorem dX10_suffixAt_55 : decode cX10_suffixAt 55 = .ok (.iload_n 2, 1) := by decide +kernel
theorem dX10_suffixAt_56 : decode cX10_suffixAt 56 = .ok (.invokevirtual 194, 3) := by decide +kernel
theorem dX10_suffixAt_59 : decode cX10_suffixAt 59 = .ok (.ireturn, 1) := by decide +kernel
theorem dX10_suffixAt_60 : decode cX10_suffixAt 60 = .ok (.new 58, 3) := by decide +kernel
theorem dX10_suffixAt_63 : decode cX10_suffixAt 63 = .ok (.dup, 1) := by decide +kernel
theorem dX10_suffixAt_64 : decode cX10_suffixAt 64 = .ok (.ldc 197, 2) := by decide +kernel
theorem dX10_suffixAt_66 : decode cX10_suffixAt 66 = .ok (.invokespecial 62, 3) := by decide +kernel
theorem dX10_suffixAt_69 : decode cX10_suffixAt 69 = .ok (.athrow, 1) := by decide +kernel
theorem dX10_rankOf_0 : decode cX10_rankOf 0 = .ok (.aload_n 0, 1) := by decide +kernel
theorem dX10_rankOf_1 : decode cX10_rankOf 1 = .ok (.iload_n 1, 1) := by decide +kernel
theorem dX10_rankOf_2 : decode cX10_rankOf 2 = .ok (.invokevirtual 178, 3) := by decide +kernel
theorem dX10_rankOf_5 : decode cX10_rankOf 5 = .ok (.astore 4, 2) := by decide +kernel
theorem dX10_rankOf_7 : decode cX10_rankOf 7 = .ok (.aload 4, 2) := by decide +kernel
theorem dX10_rankOf_9 : decode cX10_rankOf 9 = .ok (.invokevirtual 102, 3) := by decide +kernel
theorem dX10_rankOf_12 : decode cX10_rankOf 12 = .ok (.iload_n 2, 1) := by decide +kernel
theorem dX10_rankOf_13 : decode cX10_rankOf 13 = .ok (.invokestatic 108, 3) := by decide +kernel
theorem dX10_rankOf_16 : decode cX10_rankOf 16 = .ok (.istore 5, 2) := by decide +kernel
theorem dX10_rankOf_18 : decode cX10_rankOf 18 = .ok (.aload 4, 2) := by decide +kernel
theorem dX10_rankOf_20 : decode cX10_rankOf 20 = .ok (.invokevirtual 102, 3) := by decide +kernel
theorem dX10_rankOf_23 : decode cX10_rankOf 23 = .ok (.iload 5, 2) := by decide +kernel
theorem dX10_rankOf_25 : decode cX10_rankOf 25 = .ok (.iload_n 3, 1) := by decide +kernel
theorem dX10_rankOf_26 : decode cX10_rankOf 26 = .ok (.invokestatic 144, 3) := by decide +kernel
theorem dX10_rankOf_29 : decode cX10_rankOf 29 = .ok (.aload 4, 2) := by decide +kernel
theorem dX10_rankOf_31 : decode cX10_rankOf 31 = .ok (.iload 5, 2) := by decide +kernel
theorem dX10_rankOf_33 : decode cX10_rankOf 33 = .ok (.iload_n 3, 1) := by decide +kernel
theorem dX10_rankOf_34 : decode cX10_rankOf 34 = .ok (.invokevirtual 199, 3) := by decide +kernel
theorem dX10_rankOf_37 : decode cX10_rankOf 37 = .ok (.ireturn, 1) := by decide +kernel
theorem dX10_turned_0 : decode cX10_turned 0 = .ok (.aload_n 0, 1) := by decide +kernel
theorem dX10_turned_1 : decode cX10_turned 1 = .ok (.iload_n 1, 1) := by decide +kernel
theorem dX10_turned_2 : decode cX10_turned 2 = .ok (.invokevirtual 178, 3) := by decide +kernel
theorem dX10_turned_5 : decode cX10_turned 5 = .ok (.astore_n 3, 1) := by decide +kernel
theorem dX10_turned_6 : decode cX10_turned 6 = .ok (.aload_n 3, 1) := by decide +kernel
theorem dX10_turned_7 : decode cX10_turned 7 = .ok (.iload_n 2, 1) := by decide +kernel
theorem dX10_turned_8 : decode cX10_turned 8 = .ok (.invokestatic 181, 3) := by decide +kernel
theorem dX10_turned_11 : decode cX10_turned 11 = .ok (.aload_n 3, 1) := by decide +kernel
theorem dX10_turned_12 : decode cX10_turned 12 = .ok (.iload_n 2, 1) := by decide +kernel
theorem dX10_turned_13 : decode cX10_turned 13 = .ok (.invokevirtual 203, 3) := by decide +kernel
theorem dX10_turned_16 : decode cX10_turned 16 = .ok (.ireturn, 1) := by decide +kernel
theorem dX10_runs_0 : decode cX10_runs 0 = .ok (.aload_n 0, 1) := by decide +kernel
theorem dX10_runs_1 : decode cX10_runs 1 = .ok (.iload_n 1, 1) := by decide +kernel
theorem dX10_runs_2 : decode cX10_runs 2 = .ok (.invokevirtual 178, 3) := by decide +kernel
theorem dX10_runs_5 : decode cX10_runs 5 = .ok (.invokevirtual 207, 3) := by decide +kernel
theorem dX10_runs_8 : decode cX10_runs 8 = .ok (.ireturn, 1) := by decide +kernel
theorem dX10_ahead_0 : decode cX10_ahead 0 = .ok (.aload_n 0, 1) := by decide +kernel
theorem dX10_ahead_1 : decode cX10_ahead 1 = .ok (.iload_n 1, 1) := by decide +kernel
theorem dX10_ahead_2 : decode cX10_ahead 2 = .ok (.invokevirtual 178, 3) := by decide +kernel
theorem dX10_ahead_5 : decode cX10_ahead 5 = .ok (.astore 4, 2) := by decide +kernel
theorem dX10_ahead_7 : decode cX10_ahead 7 = .ok (.iload_n 2, 1) := by decide +kernel
theorem dX10_ahead_8 : decode cX10_ahead 8 = .ok (.invokestatic 210, 3) := by decide +kernel
theorem dX10_ahead_11 : decode cX10_ahead 11 = .ok (.ifCond .ne 19, 3) := by decide +kernel
theorem dX10_ahead_14 : decode cX10_ahead 14 = .ok (.iload_n 2, 1) := by decide +kernel
theorem dX10_ahead_15 : decode cX10_ahead 15 = .ok (.bipush 36, 2) := by decide +kernel
theorem dX10_ahead_17 : decode cX10_ahead 17 = .ok (.if_icmp .eq 13, 3) := by decide +kernel
theorem dX10_ahead_20 : decode cX10_ahead 20 = .ok (.new 58, 3) := by decide +kernel
theorem dX10_ahead_23 : decode cX10_ahead 23 = .ok (.dup, 1) := by decide +kernel
theorem dX10_ahead_24 : decode cX10_ahead 24 = .ok (.ldc 213, 2) := by decide +kernel
theorem dX10_ahead_26 : decode cX10_ahead 26 = .ok (.invokespecial 62, 3) := by decide +kernel
theorem dX10_ahead_29 : decode cX10_ahead 29 = .ok (.athrow, 1) := by decide +kernel
theorem dX10_ahead_30 : decode cX10_ahead 30 = .ok (.iload_n 3, 1) := by decide +kernel
theorem dX10_ahead_31 : decode cX10_ahead 31 = .ok (.ifCond .lt 15, 3) := by decide +kernel
theorem dX10_ahead_34 : decode cX10_ahead 34 = .ok (.iload_n 3, 1) := by decide +kernel
theorem dX10_ahead_35 : decode cX10_ahead 35 = .ok (.aload 4, 2) := by decide +kernel
theorem dX10_ahead_37 : decode cX10_ahead 37 = .ok (.invokevirtual 102, 3) := by decide +kernel
theorem dX10_ahead_40 : decode cX10_ahead 40 = .ok (.invokevirtual 215, 3) := by decide +kernel
theorem dX10_ahead_43 : decode cX10_ahead 43 = .ok (.if_icmp .le 13, 3) := by decide +kernel
theorem dX10_ahead_46 : decode cX10_ahead 46 = .ok (.new 58, 3) := by decide +kernel
theorem dX10_ahead_49 : decode cX10_ahead 49 = .ok (.dup, 1) := by decide +kernel
theorem dX10_ahead_50 : decode cX10_ahead 50 = .ok (.ldc 218, 2) := by decide +kernel
theorem dX10_ahead_52 : decode cX10_ahead 52 = .ok (.invokespecial 62, 3) := by decide +kernel
theorem dX10_ahead_55 : decode cX10_ahead 55 = .ok (.athrow, 1) := by decide +kernel
theorem dX10_ahead_56 : decode cX10_ahead 56 = .ok (.aload 4, 2) := by decide +kernel
theorem dX10_ahead_58 : decode cX10_ahead 58 = .ok (.iload_n 2, 1) := by decide +kernel
theorem dX10_ahead_59 : decode cX10_ahead 59 = .ok (.iload_n 3, 1) := by decide +kernel
theorem dX10_ahead_60 : decode cX10_ahead 60 = .ok (.invokevirtual 220, 3) := by decide +kernel
theorem dX10_ahead_63 : decode cX10_ahead 63 = .ok (.ireturn, 1) := by decide +kernel
theorem dX10_interval_0 : decode cX10_interval 0 = .ok (.aload_n 0, 1) := by decide +kernel
theorem dX10_interval_1 : decode cX10_interval 1 = .ok (.iload_n 1, 1) := by decide +kernel
theorem dX10_interval_2 : decode cX10_interval 2 = .ok (.invokevirtual 137, 3) := by decide +kernel
theorem dX10_interval_5 : decode cX10_interval 5 = .ok (.astore 4, 2) := by decide +kernel
theorem dX10_interval_7 : decode cX10_interval 7 = .ok (.aload_n 0, 1) := by decide +kernel
theorem dX10_interval_8 : decode cX10_interval 8 = .ok (.invokevirtual 81, 3) := by decide +kernel
theorem dX10_interval_11 : decode cX10_interval 11 = .ok (.iload_n 2, 1) := by decide +kernel
theorem dX10_interval_12 : decode cX10_interval 12 = .ok (.ifCond .lt 14, 3) := by decide +kernel
theorem dX10_interval_15 : decode cX10_interval 15 = .ok (.iload_n 2, 1) := by decide +kernel
theorem dX10_interval_16 : decode cX10_interval 16 = .ok (.aload_n 0, 1) := by decide +kernel
theorem dX10_interval_17 : decode cX10_interval 17 = .ok (.getfield 12, 3) := by decide +kernel
theorem dX10_interval_20 : decode cX10_interval 20 = .ok (.invokevirtual 65, 3) := by decide +kernel
theorem dX10_interval_23 : decode cX10_interval 23 = .ok (.if_icmp .le 13, 3) := by decide +kernel
theorem dX10_interval_26 : decode cX10_interval 26 = .ok (.new 58, 3) := by decide +kernel
theorem dX10_interval_29 : decode cX10_interval 29 = .ok (.dup, 1) := by decide +kernel
theorem dX10_interval_30 : decode cX10_interval 30 = .ok (.ldc 224, 2) := by decide +kernel
theorem dX10_interval_32 : decode cX10_interval 32 = .ok (.invokespecial 62, 3) := by decide +kernel
theorem dX10_interval_35 : decode cX10_interval 35 = .ok (.athrow, 1) := by decide +kernel
theorem dX10_interval_36 : decode cX10_interval 36 = .ok (.aload 4, 2) := by decide +kernel
theorem dX10_interval_38 : decode cX10_interval 38 = .ok (.aload_n 0, 1) := by decide +kernel
theorem dX10_interval_39 : decode cX10_interval 39 = .ok (.getfield 12, 3) := by decide +kernel
theorem dX10_interval_42 : decode cX10_interval 42 = .ok (.aload_n 0, 1) := by decide +kernel
theorem dX10_interval_43 : decode cX10_interval 43 = .ok (.getfield 12, 3) := by decide +kernel
theorem dX10_interval_46 : decode cX10_interval 46 = .ok (.invokevirtual 65, 3) := by decide +kernel
theorem dX10_interval_49 : decode cX10_interval 49 = .ok (.iload_n 2, 1) := by decide +kernel
theorem dX10_interval_50 : decode cX10_interval 50 = .ok (.isub, 1) := by decide +kernel
theorem dX10_interval_51 : decode cX10_interval 51 = .ok (.iload_n 3, 1) := by decide +kernel
theorem dX10_interval_52 : decode cX10_interval 52 = .ok (.invokevirtual 226, 3) := by decide +kernel
theorem dX10_interval_55 : decode cX10_interval 55 = .ok (.ireturn, 1) := by decide +kernel
theorem dX10_count_0 : decode cX10_count 0 = .ok (.aload_n 0, 1) := by decide +kernel
theorem dX10_count_1 : decode cX10_count 1 = .ok (.iload_n 1, 1) := by decide +kernel
theorem dX10_count_2 : decode cX10_count 2 = .ok (.invokevirtual 137, 3) := by decide +kernel
theorem dX10_count_5 : decode cX10_count 5 = .ok (.invokevirtual 102, 3) := by decide +kernel
theorem dX10_count_8 : decode cX10_count 8 = .ok (.astore_n 2, 1) := by decide +kernel
theorem dX10_count_9 : decode cX10_count 9 = .ok (.aload_n 0, 1) := by decide +kernel
theorem dX10_count_10 : decode cX10_count 10 = .ok (.invokevirtual 230, 3) := by decide +kernel
theorem dX10_count_13 : decode cX10_count 13 = .ok (.aload_n 2, 1) := by decide +kernel
theorem dX10_count_14 : decode cX10_count 14 = .ok (.aload_n 0, 1) := by decide +kernel
theorem dX10_count_15 : decode cX10_count 15 = .ok (.getfield 12, 3) := by decide +kernel
theorem dX10_count_18 : decode cX10_count 18 = .ok (.invokevirtual 233, 3) := by decide +kernel
theorem dX10_count_21 : decode cX10_count 21 = .ok (.ireturn, 1) := by decide +kernel
theorem dX10_found_0 : decode cX10_found 0 = .ok (.aload_n 0, 1) := by decide +kernel
theorem dX10_found_1 : decode cX10_found 1 = .ok (.iload_n 1, 1) := by decide +kernel
theorem dX10_found_2 : decode cX10_found 2 = .ok (.invokevirtual 137, 3) := by decide +kernel
theorem dX10_found_5 : decode cX10_found 5 = .ok (.invokevirtual 102, 3) := by decide +kernel
theorem dX10_found_8 : decode cX10_found 8 = .ok (.astore 4, 2) := by decide +kernel
theorem dX10_found_10 : decode cX10_found 10 = .ok (.aload_n 0, 1) := by decide +kernel
theorem dX10_found_11 : decode cX10_found 11 = .ok (.invokevirtual 230, 3) := by decide +kernel
theorem dX10_found_14 : decode cX10_found 14 = .ok (.iload_n 2, 1) := by decide +kernel
theorem dX10_found_15 : decode cX10_found 15 = .ok (.istore 5, 2) := by decide +kernel
theorem dX10_found_17 : decode cX10_found 17 = .ok (.iconst 0, 1) := by decide +kernel
theorem dX10_found_18 : decode cX10_found 18 = .ok (.istore 6, 2) := by decide +kernel
theorem dX10_found_20 : decode cX10_found 20 = .ok (.iload 6, 2) := by decide +kernel
theorem dX10_found_22 : decode cX10_found 22 = .ok (.aload 4, 2) := by decide +kernel
theorem dX10_found_24 : decode cX10_found 24 = .ok (.invokevirtual 134, 3) := by decide +kernel
theorem dX10_found_27 : decode cX10_found 27 = .ok (.if_icmp .ge 70, 3) := by decide +kernel
theorem dX10_found_30 : decode cX10_found 30 = .ok (.iload 5, 2) := by decide +kernel
theorem dX10_found_32 : decode cX10_found 32 = .ok (.ifCond .lt 65, 3) := by decide +kernel
theorem dX10_found_35 : decode cX10_found 35 = .ok (.aload 4, 2) := by decide +kernel
theorem dX10_found_37 : decode cX10_found 37 = .ok (.iload 6, 2) := by decide +kernel
theorem dX10_found_39 : decode cX10_found 39 = .ok (.aload_n 0, 1) := by decide +kernel
theorem dX10_found_40 : decode cX10_found 40 = .ok (.getfield 12, 3) := by decide +kernel
theorem dX10_found_43 : decode cX10_found 43 = .ok (.invokevirtual 236, 3) := by decide +kernel
theorem dX10_found_46 : decode cX10_found 46 = .ok (.lstore 7, 2) := by decide +kernel
theorem dX10_found_48 : decode cX10_found 48 = .ok (.lload 7, 2) := by decide +kernel
theorem dX10_found_50 : decode cX10_found 50 = .ok (.invokestatic 240, 3) := by decide +kernel
theorem dX10_found_53 : decode cX10_found 53 = .ok (.istore 9, 2) := by decide +kernel
theorem dX10_found_55 : decode cX10_found 55 = .ok (.iload 5, 2) := by decide +kernel
theorem dX10_found_57 : decode cX10_found 57 = .ok (.iload 9, 2) := by decide +kernel
theorem dX10_found_59 : decode cX10_found 59 = .ok (.if_icmp .ge 25, 3) := by decide +kernel
theorem dX10_found_62 : decode cX10_found 62 = .ok (.iload_n 3, 1) := by decide +kernel
theorem dX10_found_63 : decode cX10_found 63 = .ok (.ifCond .eq 13, 3) := by decide +kernel
theorem dX10_found_66 : decode cX10_found 66 = .ok (.lload 7, 2) := by decide +kernel
theorem dX10_found_68 : decode cX10_found 68 = .ok (.iload 5, 2) := by decide +kernel
theorem dX10_found_70 : decode cX10_found 70 = .ok (.invokestatic 246, 3) := by decide +kernel
theorem dX10_found_73 : decode cX10_found 73 = .ok (.goto 10, 3) := by decide +kernel
theorem dX10_found_76 : decode cX10_found 76 = .ok (.aload 4, 2) := by decide +kernel
theorem dX10_found_78 : decode cX10_found 78 = .ok (.iload 6, 2) := by decide +kernel
theorem dX10_found_80 : decode cX10_found 80 = .ok (.invokevirtual 188, 3) := by decide +kernel
theorem dX10_found_83 : decode cX10_found 83 = .ok (.ireturn, 1) := by decide +kernel
theorem dX10_found_84 : decode cX10_found 84 = .ok (.iload 5, 2) := by decide +kernel
theorem dX10_found_86 : decode cX10_found 86 = .ok (.iload 9, 2) := by decide +kernel
theorem dX10_found_88 : decode cX10_found 88 = .ok (.isub, 1) := by decide +kernel
theorem dX10_found_89 : decode cX10_found 89 = .ok (.istore 5, 2) := by decide +kernel
theorem dX10_found_91 : decode cX10_found 91 = .ok (.iinc 6 1, 3) := by decide +kernel
theorem dX10_found_94 : decode cX10_found 94 = .ok (.goto (-74), 3) := by decide +kernel
theorem dX10_found_97 : decode cX10_found 97 = .ok (.new 250, 3) := by decide +kernel
theorem dX10_found_100 : decode cX10_found 100 = .ok (.dup, 1) := by decide +kernel
theorem dX10_found_101 : decode cX10_found 101 = .ok (.ldc 252, 2) := by decide +kernel
theorem dX10_found_103 : decode cX10_found 103 = .ok (.invokespecial 254, 3) := by decide +kernel
theorem dX10_found_106 : decode cX10_found 106 = .ok (.athrow, 1) := by decide +kernel
theorem dX10_runShare_0 : decode cX10_runShare 0 = .ok (.aload_n 0, 1) := by decide +kernel
theorem dX10_runShare_1 : decode cX10_runShare 1 = .ok (.iload_n 1, 1) := by decide +kernel
theorem dX10_runShare_2 : decode cX10_runShare 2 = .ok (.invokevirtual 178, 3) := by decide +kernel
theorem dX10_runShare_5 : decode cX10_runShare 5 = .ok (.astore_n 2, 1) := by decide +kernel
theorem dX10_runShare_6 : decode cX10_runShare 6 = .ok (.aload_n 2, 1) := by decide +kernel
theorem dX10_runShare_7 : decode cX10_runShare 7 = .ok (.invokevirtual 102, 3) := by decide +kernel
theorem dX10_runShare_10 : decode cX10_runShare 10 = .ok (.invokevirtual 215, 3) := by decide +kernel
theorem dX10_runShare_13 : decode cX10_runShare 13 = .ok (.istore_n 3, 1) := by decide +kernel
theorem dX10_runShare_14 : decode cX10_runShare 14 = .ok (.iload_n 3, 1) := by decide +kernel
theorem dX10_runShare_15 : decode cX10_runShare 15 = .ok (.iconst 1, 1) := by decide +kernel
theorem dX10_runShare_16 : decode cX10_runShare 16 = .ok (.if_icmp .ge 14, 3) := by decide +kernel
theorem dX10_runShare_19 : decode cX10_runShare 19 = .ok (.new 250, 3) := by decide +kernel
theorem dX10_runShare_22 : decode cX10_runShare 22 = .ok (.dup, 1) := by decide +kernel
theorem dX10_runShare_23 : decode cX10_runShare 23 = .ok (.ldc_w 380, 3) := by decide +kernel
theorem dX10_runShare_26 : decode cX10_runShare 26 = .ok (.invokespecial 254, 3) := by decide +kernel
theorem dX10_runShare_29 : decode cX10_runShare 29 = .ok (.athrow, 1) := by decide +kernel
theorem dX10_runShare_30 : decode cX10_runShare 30 = .ok (.aload_n 2, 1) := by decide +kernel
theorem dX10_runShare_31 : decode cX10_runShare 31 = .ok (.invokevirtual 207, 3) := by decide +kernel
theorem dX10_runShare_34 : decode cX10_runShare 34 = .ok (.i2f, 1) := by decide +kernel
theorem dX10_runShare_35 : decode cX10_runShare 35 = .ok (.iload_n 3, 1) := by decide +kernel
theorem dX10_runShare_36 : decode cX10_runShare 36 = .ok (.i2f, 1) := by decide +kernel
theorem dX10_runShare_37 : decode cX10_runShare 37 = .ok (.fdiv, 1) := by decide +kernel
theorem dX10_runShare_38 : decode cX10_runShare 38 = .ok (.freturn, 1) := by decide +kernel
theorem dX10_isSound_0 : decode cX10_isSound 0 = .ok (.aload_n 0, 1) := by decide +kernel
theorem dX10_isSound_1 : decode cX10_isSound 1 = .ok (.getfield 19, 3) := by decide +kernel
theorem dX10_isSound_4 : decode cX10_isSound 4 = .ok (.invokevirtual 387, 3) := by decide +kernel
theorem dX10_isSound_7 : decode cX10_isSound 7 = .ok (.ireturn, 1) := by decide +kernel
theorem dX10_isLetter_0 : decode cX10_isLetter 0 = .ok (.iload_n 0, 1) := by decide +kernel
theorem dX10_isLetter_1 : decode cX10_isLetter 1 = .ok (.bipush 97, 2) := by decide +kernel
theorem dX10_isLetter_3 : decode cX10_isLetter 3 = .ok (.if_icmp .lt 13, 3) := by decide +kernel
theorem dX10_isLetter_6 : decode cX10_isLetter 6 = .ok (.iload_n 0, 1) := by decide +kernel
theorem dX10_isLetter_7 : decode cX10_isLetter 7 = .ok (.bipush 101, 2) := by decide +kernel
theorem dX10_isLetter_9 : decode cX10_isLetter 9 = .ok (.if_icmp .gt 7, 3) := by decide +kernel
theorem dX10_isLetter_12 : decode cX10_isLetter 12 = .ok (.iconst 1, 1) := by decide +kernel
theorem dX10_isLetter_13 : decode cX10_isLetter 13 = .ok (.goto 4, 3) := by decide +kernel
theorem dX10_isLetter_16 : decode cX10_isLetter 16 = .ok (.iconst 0, 1) := by decide +kernel
theorem dX10_isLetter_17 : decode cX10_isLetter 17 = .ok (.ireturn, 1) := by decide +kernel
theorem dX10_isSign_0 : decode cX10_isSign 0 = .ok (.iload_n 0, 1) := by decide +kernel
theorem dX10_isSign_1 : decode cX10_isSign 1 = .ok (.invokestatic 210, 3) := by decide +kernel
theorem dX10_isSign_4 : decode cX10_isSign 4 = .ok (.ifCond .ne 39, 3) := by decide +kernel
theorem dX10_isSign_7 : decode cX10_isSign 7 = .ok (.iload_n 0, 1) := by decide +kernel
theorem dX10_isSign_8 : decode cX10_isSign 8 = .ok (.bipush 46, 2) := by decide +kernel
theorem dX10_isSign_10 : decode cX10_isSign 10 = .ok (.if_icmp .eq 33, 3) := by decide +kernel
theorem dX10_isSign_13 : decode cX10_isSign 13 = .ok (.iload_n 0, 1) := by decide +kernel
theorem dX10_isSign_14 : decode cX10_isSign 14 = .ok (.bipush 126, 2) := by decide +kernel
theorem dX10_isSign_16 : decode cX10_isSign 16 = .ok (.if_icmp .eq 27, 3) := by decide +kernel
theorem dX10_isSign_19 : decode cX10_isSign 19 = .ok (.iload_n 0, 1) := by decide +kernel
theorem dX10_isSign_20 : decode cX10_isSign 20 = .ok (.bipush 40, 2) := by decide +kernel
theorem dX10_isSign_22 : decode cX10_isSign 22 = .ok (.if_icmp .eq 21, 3) := by decide +kernel
theorem dX10_isSign_25 : decode cX10_isSign 25 = .ok (.iload_n 0, 1) := by decide +kernel
theorem dX10_isSign_26 : decode cX10_isSign 26 = .ok (.bipush 41, 2) := by decide +kernel
theorem dX10_isSign_28 : decode cX10_isSign 28 = .ok (.if_icmp .eq 15, 3) := by decide +kernel
theorem dX10_isSign_31 : decode cX10_isSign 31 = .ok (.iload_n 0, 1) := by decide +kernel
theorem dX10_isSign_32 : decode cX10_isSign 32 = .ok (.bipush 124, 2) := by decide +kernel
theorem dX10_isSign_34 : decode cX10_isSign 34 = .ok (.if_icmp .eq 9, 3) := by decide +kernel
theorem dX10_isSign_37 : decode cX10_isSign 37 = .ok (.iload_n 0, 1) := by decide +kernel
theorem dX10_isSign_38 : decode cX10_isSign 38 = .ok (.bipush 42, 2) := by decide +kernel
theorem dX10_isSign_40 : decode cX10_isSign 40 = .ok (.if_icmp .ne 7, 3) := by decide +kernel
theorem dX10_isSign_43 : decode cX10_isSign 43 = .ok (.iconst 1, 1) := by decide +kernel
theorem dX10_isSign_44 : decode cX10_isSign 44 = .ok (.goto 4, 3) := by decide +kernel
theorem dX10_isSign_47 : decode cX10_isSign 47 = .ok (.iconst 0, 1) := by decide +kernel
theorem dX10_isSign_48 : decode cX10_isSign 48 = .ok (.ireturn, 1) := by decide +kernel
theorem dX10_neededView_0 : decode cX10_neededView 0 = .ok (.aload_n 0, 1) := by decide +kernel
theorem dX10_neededView_1 : decode cX10_neededView 1 = .ok (.getfield 19, 3) := by decide +kernel
theorem dX10_neededView_4 : decode cX10_neededView 4 = .ok (.iload_n 1, 1) := by decide +kernel
theorem dX10_neededView_5 : decode cX10_neededView 5 = .ok (.invokevirtual 390, 3) := by decide +kernel
theorem dX10_neededView_8 : decode cX10_neededView 8 = .ok (.astore_n 2, 1) := by decide +kernel
theorem dX10_neededView_9 : decode cX10_neededView 9 = .ok (.aload_n 2, 1) := by decide +kernel
theorem dX10_neededView_10 : decode cX10_neededView 10 = .ok (.ifnonnull 14, 3) := by decide +kernel
theorem dX10_neededView_13 : decode cX10_neededView 13 = .ok (.new 163, 3) := by decide +kernel
theorem dX10_neededView_16 : decode cX10_neededView 16 = .ok (.dup, 1) := by decide +kernel
theorem dX10_neededView_17 : decode cX10_neededView 17 = .ok (.ldc_w 393, 3) := by decide +kernel
theorem dX10_neededView_20 : decode cX10_neededView 20 = .ok (.invokespecial 167, 3) := by decide +kernel
theorem dX10_neededView_23 : decode cX10_neededView 23 = .ok (.athrow, 1) := by decide +kernel
theorem dX10_neededView_24 : decode cX10_neededView 24 = .ok (.aload_n 2, 1) := by decide +kernel
theorem dX10_neededView_25 : decode cX10_neededView 25 = .ok (.areturn, 1) := by decide +kernel
theorem dX10_orderedView_0 : decode cX10_orderedView 0 = .ok (.aload_n 0, 1) := by decide +kernel
theorem dX10_orderedView_1 : decode cX10_orderedView 1 = .ok (.iload_n 1, 1) := by decide +kernel
theorem dX10_orderedView_2 : decode cX10_orderedView 2 = .ok (.invokevirtual 137, 3) := by decide +kernel
theorem dX10_orderedView_5 : decode cX10_orderedView 5 = .ok (.astore_n 2, 1) := by decide +kernel
theorem dX10_orderedView_6 : decode cX10_orderedView 6 = .ok (.aload_n 2, 1) := by decide +kernel
theorem dX10_orderedView_7 : decode cX10_orderedView 7 = .ok (.invokevirtual 395, 3) := by decide +kernel
theorem dX10_orderedView_10 : decode cX10_orderedView 10 = .ok (.aload_n 2, 1) := by decide +kernel
theorem dX10_orderedView_11 : decode cX10_orderedView 11 = .ok (.areturn, 1) := by decide +kernel
theorem dX10_neededSlot_0 : decode cX10_neededSlot 0 = .ok (.aload_n 0, 1) := by decide +kernel
theorem dX10_neededSlot_1 : decode cX10_neededSlot 1 = .ok (.iload_n 1, 1) := by decide +kernel
theorem dX10_neededSlot_2 : decode cX10_neededSlot 2 = .ok (.invokevirtual 141, 3) := by decide +kernel
theorem dX10_neededSlot_5 : decode cX10_neededSlot 5 = .ok (.istore_n 2, 1) := by decide +kernel
theorem dX10_neededSlot_6 : decode cX10_neededSlot 6 = .ok (.iload_n 2, 1) := by decide +kernel
theorem dX10_neededSlot_7 : decode cX10_neededSlot 7 = .ok (.iconst (-1), 1) := by decide +kernel
theorem dX10_neededSlot_8 : decode cX10_neededSlot 8 = .ok (.if_icmp .ne 14, 3) := by decide +kernel
theorem dX10_neededSlot_11 : decode cX10_neededSlot 11 = .ok (.new 163, 3) := by decide +kernel
theorem dX10_neededSlot_14 : decode cX10_neededSlot 14 = .ok (.dup, 1) := by decide +kernel
theorem dX10_neededSlot_15 : decode cX10_neededSlot 15 = .ok (.ldc_w 398, 3) := by decide +kernel
theorem dX10_neededSlot_18 : decode cX10_neededSlot 18 = .ok (.invokespecial 167, 3) := by decide +kernel
theorem dX10_neededSlot_21 : decode cX10_neededSlot 21 = .ok (.athrow, 1) := by decide +kernel
theorem dX10_neededSlot_22 : decode cX10_neededSlot 22 = .ok (.iload_n 2, 1) := by decide +kernel
theorem dX10_neededSlot_23 : decode cX10_neededSlot 23 = .ok (.ireturn, 1) := by decide +kernel
theorem dX10_needPlace_0 : decode cX10_needPlace 0 = .ok (.iload_n 2, 1) := by decide +kernel
theorem dX10_needPlace_1 : decode cX10_needPlace 1 = .ok (.ifCond .lt 12, 3) := by decide +kernel
theorem dX10_needPlace_4 : decode cX10_needPlace 4 = .ok (.iload_n 2, 1) := by decide +kernel
theorem dX10_needPlace_5 : decode cX10_needPlace 5 = .ok (.aload_n 0, 1) := by decide +kernel
theorem dX10_needPlace_6 : decode cX10_needPlace 6 = .ok (.iload_n 1, 1) := by decide +kernel
theorem dX10_needPlace_7 : decode cX10_needPlace 7 = .ok (.invokevirtual 112, 3) := by decide +kernel
theorem dX10_needPlace_10 : decode cX10_needPlace 10 = .ok (.if_icmp .lt 14, 3) := by decide +kernel
theorem dX10_needPlace_13 : decode cX10_needPlace 13 = .ok (.new 250, 3) := by decide +kernel
theorem dX10_needPlace_16 : decode cX10_needPlace 16 = .ok (.dup, 1) := by decide +kernel
theorem dX10_needPlace_17 : decode cX10_needPlace 17 = .ok (.ldc_w 400, 3) := by decide +kernel
theorem dX10_needPlace_20 : decode cX10_needPlace 20 = .ok (.invokespecial 254, 3) := by decide +kernel
theorem dX10_needPlace_23 : decode cX10_needPlace 23 = .ok (.athrow, 1) := by decide +kernel
theorem dX10_needPlace_24 : decode cX10_needPlace 24 = .ok (.return_, 1) := by decide +kernel
theorem dX10_needRank_0 : decode cX10_needRank 0 = .ok (.iload_n 1, 1) := by decide +kernel
theorem dX10_needRank_1 : decode cX10_needRank 1 = .ok (.ifCond .lt 14, 3) := by decide +kernel
theorem dX10_needRank_4 : decode cX10_needRank 4 = .ok (.iload_n 1, 1) := by decide +kernel
theorem dX10_needRank_5 : decode cX10_needRank 5 = .ok (.aload_n 0, 1) := by decide +kernel
theorem dX10_needRank_6 : decode cX10_needRank 6 = .ok (.invokevirtual 102, 3) := by decide +kernel
theorem dX10_needRank_9 : decode cX10_needRank 9 = .ok (.invokevirtual 215, 3) := by decide +kernel
theorem dX10_needRank_12 : decode cX10_needRank 12 = .ok (.if_icmp .lt 13, 3) := by decide +kernel
theorem dX10_needRank_15 : decode cX10_needRank 15 = .ok (.new 250, 3) := by decide +kernel
theorem dX10_needRank_18 : decode cX10_needRank 18 = .ok (.dup, 1) := by decide +kernel
theorem dX10_needRank_19 : decode cX10_needRank 19 = .ok (.ldc 218, 2) := by decide +kernel
theorem dX10_needRank_21 : decode cX10_needRank 21 = .ok (.invokespecial 254, 3) := by decide +kernel
theorem dX10_needRank_24 : decode cX10_needRank 24 = .ok (.athrow, 1) := by decide +kernel
theorem dX10_needRank_25 : decode cX10_needRank 25 = .ok (.return_, 1) := by decide +kernel
theorem dX10_needPlainRow_0 : decode cX10_needPlainRow 0 = .ok (.aload_n 0, 1) := by decide +kernel
theorem dX10_needPlainRow_1 : decode cX10_needPlainRow 1 = .ok (.getfield 12, 3) := by decide +kernel
theorem dX10_needPlainRow_4 : decode cX10_needPlainRow 4 = .ok (.invokevirtual 402, 3) := by decide +kernel
theorem dX10_needPlainRow_7 : decode cX10_needPlainRow 7 = .ok (.ifCond .ne 14, 3) := by decide +kernel
theorem dX10_needPlainRow_10 : decode cX10_needPlainRow 10 = .ok (.new 275, 3) := by decide +kernel
theorem dX10_needPlainRow_13 : decode cX10_needPlainRow 13 = .ok (.dup, 1) := by decide +kernel
theorem dX10_needPlainRow_14 : decode cX10_needPlainRow 14 = .ok (.ldc_w 405, 3) := by decide +kernel
theorem dX10_needPlainRow_17 : decode cX10_needPlainRow 17 = .ok (.invokespecial 279, 3) := by decide +kernel
theorem dX10_needPlainRow_20 : decode cX10_needPlainRow 20 = .ok (.athrow, 1) := by decide +kernel
theorem dX10_needPlainRow_21 : decode cX10_needPlainRow 21 = .ok (.return_, 1) := by decide +kernel
theorem dX10_needSimpleRow_0 : decode cX10_needSimpleRow 0 = .ok (.aload_n 0, 1) := by decide +kernel
theorem dX10_needSimpleRow_1 : decode cX10_needSimpleRow 1 = .ok (.getfield 12, 3) := by decide +kernel
theorem dX10_needSimpleRow_4 : decode cX10_needSimpleRow 4 = .ok (.invokevirtual 407, 3) := by decide +kernel
theorem dX10_needSimpleRow_7 : decode cX10_needSimpleRow 7 = .ok (.ifCond .ne 14, 3) := by decide +kernel
theorem dX10_needSimpleRow_10 : decode cX10_needSimpleRow 10 = .ok (.new 275, 3) := by decide +kernel
theorem dX10_needSimpleRow_13 : decode cX10_needSimpleRow 13 = .ok (.dup, 1) := by decide +kernel
theorem dX10_needSimpleRow_14 : decode cX10_needSimpleRow 14 = .ok (.ldc_w 410, 3) := by decide +kernel
theorem dX10_needSimpleRow_17 : decode cX10_needSimpleRow 17 = .ok (.invokespecial 279, 3) := by decide +kernel
theorem dX10_needSimpleRow_20 : decode cX10_needSimpleRow 20 = .ok (.athrow, 1) := by decide +kernel
theorem dX10_needSimpleRow_21 : decode cX10_needSimpleRow 21 = .ok (.return_, 1) := by decide +kernel
theorem dX10_placeOfBit_0 : decode cX10_placeOfBit 0 = .ok (.iload_n 2, 1) := by decide +kernel
theorem dX10_placeOfBit_1 : decode cX10_placeOfBit 1 = .ok (.istore_n 3, 1) := by decide +kernel
theorem dX10_placeOfBit_2 : decode cX10_placeOfBit 2 = .ok (.iconst 0, 1) := by decide +kernel
theorem dX10_placeOfBit_3 : decode cX10_placeOfBit 3 = .ok (.istore 4, 2) := by decide +kernel
theorem dX10_placeOfBit_5 : decode cX10_placeOfBit 5 = .ok (.iload 4, 2) := by decide +kernel
theorem dX10_placeOfBit_7 : decode cX10_placeOfBit 7 = .ok (.bipush 40, 2) := by decide +kernel
theorem dX10_placeOfBit_9 : decode cX10_placeOfBit 9 = .ok (.if_icmp .ge 30, 3) := by decide +kernel
theorem dX10_placeOfBit_12 : decode cX10_placeOfBit 12 = .ok (.lload_n 0, 1) := by decide +kernel
theorem dX10_placeOfBit_13 : decode cX10_placeOfBit 13 = .ok (.iload 4, 2) := by decide +kernel
theorem dX10_placeOfBit_15 : decode cX10_placeOfBit 15 = .ok (.lushr, 1) := by decide +kernel
theorem dX10_placeOfBit_16 : decode cX10_placeOfBit 16 = .ok (.lconst 1, 1) := by decide +kernel
theorem dX10_placeOfBit_17 : decode cX10_placeOfBit 17 = .ok (.land, 1) := by decide +kernel
theorem dX10_placeOfBit_18 : decode cX10_placeOfBit 18 = .ok (.lconst 0, 1) := by decide +kernel
theorem dX10_placeOfBit_19 : decode cX10_placeOfBit 19 = .ok (.lcmp, 1) := by decide +kernel
theorem dX10_placeOfBit_20 : decode cX10_placeOfBit 20 = .ok (.ifCond .eq 13, 3) := by decide +kernel
theorem dX10_placeOfBit_23 : decode cX10_placeOfBit 23 = .ok (.iload_n 3, 1) := by decide +kernel
theorem dX10_placeOfBit_24 : decode cX10_placeOfBit 24 = .ok (.ifCond .ne 6, 3) := by decide +kernel
theorem dX10_placeOfBit_27 : decode cX10_placeOfBit 27 = .ok (.iload 4, 2) := by decide +kernel
theorem dX10_placeOfBit_29 : decode cX10_placeOfBit 29 = .ok (.ireturn, 1) := by decide +kernel
theorem dX10_placeOfBit_30 : decode cX10_placeOfBit 30 = .ok (.iinc 3 (-1), 3) := by decide +kernel
theorem dX10_placeOfBit_33 : decode cX10_placeOfBit 33 = .ok (.iinc 4 1, 3) := by decide +kernel
theorem dX10_placeOfBit_36 : decode cX10_placeOfBit 36 = .ok (.goto (-31), 3) := by decide +kernel
theorem dX10_placeOfBit_39 : decode cX10_placeOfBit 39 = .ok (.iconst (-1), 1) := by decide +kernel
theorem dX10_placeOfBit_40 : decode cX10_placeOfBit 40 = .ok (.ireturn, 1) := by decide +kernel
theorem dJ13_bitCount_95d88_0 : decode cJ13_bitCount_95d88 0 = .ok (.lload_n 0, 1) := by decide +kernel
theorem dJ13_bitCount_95d88_1 : decode cJ13_bitCount_95d88 1 = .ok (.lload_n 0, 1) := by decide +kernel
theorem dJ13_bitCount_95d88_2 : decode cJ13_bitCount_95d88 2 = .ok (.iconst 1, 1) := by decide +kernel
theorem dJ13_bitCount_95d88_3 : decode cJ13_bitCount_95d88 3 = .ok (.lushr, 1) := by decide +kernel
theorem dJ13_bitCount_95d88_4 : decode cJ13_bitCount_95d88 4 = .ok (.ldc2_w 314, 3) := by decide +kernel
theorem dJ13_bitCount_95d88_7 : decode cJ13_bitCount_95d88 7 = .ok (.land, 1) := by decide +kernel
theorem dJ13_bitCount_95d88_8 : decode cJ13_bitCount_95d88 8 = .ok (.lsub, 1) := by decide +kernel
theorem dJ13_bitCount_95d88_9 : decode cJ13_bitCount_95d88 9 = .ok (.lstore_n 0, 1) := by decide +kernel
theorem dJ13_bitCount_95d88_10 : decode cJ13_bitCount_95d88 10 = .ok (.lload_n 0, 1) := by decide +kernel
theorem dJ13_bitCount_95d88_11 : decode cJ13_bitCount_95d88 11 = .ok (.ldc2_w 316, 3) := by decide +kernel
theorem dJ13_bitCount_95d88_14 : decode cJ13_bitCount_95d88 14 = .ok (.land, 1) := by decide +kernel
theorem dJ13_bitCount_95d88_15 : decode cJ13_bitCount_95d88 15 = .ok (.lload_n 0, 1) := by decide +kernel
theorem dJ13_bitCount_95d88_16 : decode cJ13_bitCount_95d88 16 = .ok (.iconst 2, 1) := by decide +kernel
theorem dJ13_bitCount_95d88_17 : decode cJ13_bitCount_95d88 17 = .ok (.lushr, 1) := by decide +kernel
theorem dJ13_bitCount_95d88_18 : decode cJ13_bitCount_95d88 18 = .ok (.ldc2_w 316, 3) := by decide +kernel
theorem dJ13_bitCount_95d88_21 : decode cJ13_bitCount_95d88 21 = .ok (.land, 1) := by decide +kernel
theorem dJ13_bitCount_95d88_22 : decode cJ13_bitCount_95d88 22 = .ok (.ladd, 1) := by decide +kernel
theorem dJ13_bitCount_95d88_23 : decode cJ13_bitCount_95d88 23 = .ok (.lstore_n 0, 1) := by decide +kernel
theorem dJ13_bitCount_95d88_24 : decode cJ13_bitCount_95d88 24 = .ok (.lload_n 0, 1) := by decide +kernel
theorem dJ13_bitCount_95d88_25 : decode cJ13_bitCount_95d88 25 = .ok (.lload_n 0, 1) := by decide +kernel
theorem dJ13_bitCount_95d88_26 : decode cJ13_bitCount_95d88 26 = .ok (.iconst 4, 1) := by decide +kernel
theorem dJ13_bitCount_95d88_27 : decode cJ13_bitCount_95d88 27 = .ok (.lushr, 1) := by decide +kernel
theorem dJ13_bitCount_95d88_28 : decode cJ13_bitCount_95d88 28 = .ok (.ladd, 1) := by decide +kernel
theorem dJ13_bitCount_95d88_29 : decode cJ13_bitCount_95d88 29 = .ok (.ldc2_w 318, 3) := by decide +kernel
theorem dJ13_bitCount_95d88_32 : decode cJ13_bitCount_95d88 32 = .ok (.land, 1) := by decide +kernel
theorem dJ13_bitCount_95d88_33 : decode cJ13_bitCount_95d88 33 = .ok (.lstore_n 0, 1) := by decide +kernel
theorem dJ13_bitCount_95d88_34 : decode cJ13_bitCount_95d88 34 = .ok (.lload_n 0, 1) := by decide +kernel
theorem dJ13_bitCount_95d88_35 : decode cJ13_bitCount_95d88 35 = .ok (.lload_n 0, 1) := by decide +kernel
theorem dJ13_bitCount_95d88_36 : decode cJ13_bitCount_95d88 36 = .ok (.bipush 8, 2) := by decide +kernel
theorem dJ13_bitCount_95d88_38 : decode cJ13_bitCount_95d88 38 = .ok (.lushr, 1) := by decide +kernel
theorem dJ13_bitCount_95d88_39 : decode cJ13_bitCount_95d88 39 = .ok (.ladd, 1) := by decide +kernel
theorem dJ13_bitCount_95d88_40 : decode cJ13_bitCount_95d88 40 = .ok (.lstore_n 0, 1) := by decide +kernel
theorem dJ13_bitCount_95d88_41 : decode cJ13_bitCount_95d88 41 = .ok (.lload_n 0, 1) := by decide +kernel
theorem dJ13_bitCount_95d88_42 : decode cJ13_bitCount_95d88 42 = .ok (.lload_n 0, 1) := by decide +kernel
theorem dJ13_bitCount_95d88_43 : decode cJ13_bitCount_95d88 43 = .ok (.bipush 16, 2) := by decide +kernel
theorem dJ13_bitCount_95d88_45 : decode cJ13_bitCount_95d88 45 = .ok (.lushr, 1) := by decide +kernel
theorem dJ13_bitCount_95d88_46 : decode cJ13_bitCount_95d88 46 = .ok (.ladd, 1) := by decide +kernel
theorem dJ13_bitCount_95d88_47 : decode cJ13_bitCount_95d88 47 = .ok (.lstore_n 0, 1) := by decide +kernel
theorem dJ13_bitCount_95d88_48 : decode cJ13_bitCount_95d88 48 = .ok (.lload_n 0, 1) := by decide +kernel
theorem dJ13_bitCount_95d88_49 : decode cJ13_bitCount_95d88 49 = .ok (.lload_n 0, 1) := by decide +kernel
theorem dJ13_bitCount_95d88_50 : decode cJ13_bitCount_95d88 50 = .ok (.bipush 32, 2) := by decide +kernel
theorem dJ13_bitCount_95d88_52 : decode cJ13_bitCount_95d88 52 = .ok (.lushr, 1) := by decide +kernel
theorem dJ13_bitCount_95d88_53 : decode cJ13_bitCount_95d88 53 = .ok (.ladd, 1) := by decide +kernel
theorem dJ13_bitCount_95d88_54 : decode cJ13_bitCount_95d88 54 = .ok (.lstore_n 0, 1) := by decide +kernel
theorem dJ13_bitCount_95d88_55 : decode cJ13_bitCount_95d88 55 = .ok (.lload_n 0, 1) := by decide +kernel
theorem dJ13_bitCount_95d88_56 : decode cJ13_bitCount_95d88 56 = .ok (.l2i, 1) := by decide +kernel
theorem dJ13_bitCount_95d88_57 : decode cJ13_bitCount_95d88 57 = .ok (.bipush 127, 2) := by decide +kernel
theorem dJ13_bitCount_95d88_59 : decode cJ13_bitCount_95d88 59 = .ok (.iand, 1) := by decide +kernel
theorem dJ13_bitCount_95d88_60 : decode cJ13_bitCount_95d88 60 = .ok (.ireturn, 1) := by decide +kernel
theorem dJ7_fill_53178_0 : decode cJ7_fill_53178 0 = .ok (.iconst 0, 1) := by decide +kernel
theorem dJ7_fill_53178_1 : decode cJ7_fill_53178 1 = .ok (.istore_n 2, 1) := by decide +kernel
theorem dJ7_fill_53178_2 : decode cJ7_fill_53178 2 = .ok (.aload_n 0, 1) := by decide +kernel
theorem dJ7_fill_53178_3 : decode cJ7_fill_53178 3 = .ok (.arraylength, 1) := by decide +kernel
theorem dJ7_fill_53178_4 : decode cJ7_fill_53178 4 = .ok (.istore_n 3, 1) := by decide +kernel
theorem dJ7_fill_53178_5 : decode cJ7_fill_53178 5 = .ok (.iload_n 2, 1) := by decide +kernel
theorem dJ7_fill_53178_6 : decode cJ7_fill_53178 6 = .ok (.iload_n 3, 1) := by decide +kernel
theorem dJ7_fill_53178_7 : decode cJ7_fill_53178 7 = .ok (.if_icmp .ge 13, 3) := by decide +kernel
theorem dJ7_fill_53178_10 : decode cJ7_fill_53178 10 = .ok (.aload_n 0, 1) := by decide +kernel
theorem dJ7_fill_53178_11 : decode cJ7_fill_53178 11 = .ok (.iload_n 2, 1) := by decide +kernel
theorem dJ7_fill_53178_12 : decode cJ7_fill_53178 12 = .ok (.iload_n 1, 1) := by decide +kernel
theorem dJ7_fill_53178_13 : decode cJ7_fill_53178 13 = .ok (.iastore, 1) := by decide +kernel
theorem dJ7_fill_53178_14 : decode cJ7_fill_53178 14 = .ok (.iinc 2 1, 3) := by decide +kernel
theorem dJ7_fill_53178_17 : decode cJ7_fill_53178 17 = .ok (.goto (-12), 3) := by decide +kernel
theorem dJ7_fill_53178_20 : decode cJ7_fill_53178 20 = .ok (.return_, 1) := by decide +kernel
theorem dL_cell_0 : decode cL_cell 0 = .ok (.ldc 7, 2) := by decide +kernel
theorem dL_cell_2 : decode cL_cell 2 = .ok (.iload_n 1, 1) := by decide +kernel
theorem dL_cell_3 : decode cL_cell 3 = .ok (.aload_n 0, 1) := by decide +kernel
theorem dL_cell_4 : decode cL_cell 4 = .ok (.arraylength, 1) := by decide +kernel
theorem dL_cell_5 : decode cL_cell 5 = .ok (.if_icmp .ge 9, 3) := by decide +kernel
theorem dL_cell_8 : decode cL_cell 8 = .ok (.aload_n 0, 1) := by decide +kernel
theorem dL_cell_9 : decode cL_cell 9 = .ok (.iload_n 1, 1) := by decide +kernel
theorem dL_cell_10 : decode cL_cell 10 = .ok (.iaload, 1) := by decide +kernel
theorem dL_cell_11 : decode cL_cell 11 = .ok (.goto 4, 3) := by decide +kernel
theorem dL_cell_14 : decode cL_cell 14 = .ok (.iconst 0, 1) := by decide +kernel
theorem dL_cell_15 : decode cL_cell 15 = .ok (.sipush 1009, 3) := by decide +kernel
theorem dL_cell_18 : decode cL_cell 18 = .ok (.iload_n 1, 1) := by decide +kernel
theorem dL_cell_19 : decode cL_cell 19 = .ok (.imul, 1) := by decide +kernel
theorem dL_cell_20 : decode cL_cell 20 = .ok (.iadd, 1) := by decide +kernel
theorem dL_cell_21 : decode cL_cell 21 = .ok (.imul, 1) := by decide +kernel
theorem dL_cell_22 : decode cL_cell 22 = .ok (.sipush 12345, 3) := by decide +kernel
theorem dL_cell_25 : decode cL_cell 25 = .ok (.iadd, 1) := by decide +kernel
theorem dL_cell_26 : decode cL_cell 26 = .ok (.istore_n 2, 1) := by decide +kernel
theorem dL_cell_27 : decode cL_cell 27 = .ok (.iload_n 2, 1) := by decide +kernel
theorem dL_cell_28 : decode cL_cell 28 = .ok (.iload_n 2, 1) := by decide +kernel
theorem dL_cell_29 : decode cL_cell 29 = .ok (.bipush 13, 2) := by decide +kernel
theorem dL_cell_31 : decode cL_cell 31 = .ok (.iushr, 1) := by decide +kernel
theorem dL_cell_32 : decode cL_cell 32 = .ok (.ixor, 1) := by decide +kernel
theorem dL_cell_33 : decode cL_cell 33 = .ok (.ldc 8, 2) := by decide +kernel
theorem dL_cell_35 : decode cL_cell 35 = .ok (.imul, 1) := by decide +kernel
theorem dL_cell_36 : decode cL_cell 36 = .ok (.istore_n 2, 1) := by decide +kernel
theorem dL_cell_37 : decode cL_cell 37 = .ok (.iload_n 2, 1) := by decide +kernel
theorem dL_cell_38 : decode cL_cell 38 = .ok (.iload_n 2, 1) := by decide +kernel
theorem dL_cell_39 : decode cL_cell 39 = .ok (.bipush 16, 2) := by decide +kernel
theorem dL_cell_41 : decode cL_cell 41 = .ok (.iushr, 1) := by decide +kernel
theorem dL_cell_42 : decode cL_cell 42 = .ok (.ixor, 1) := by decide +kernel
theorem dL_cell_43 : decode cL_cell 43 = .ok (.ireturn, 1) := by decide +kernel
theorem dL_type_0 : decode cL_type 0 = .ok (.aload_n 0, 1) := by decide +kernel
theorem dL_type_1 : decode cL_type 1 = .ok (.iload_n 1, 1) := by decide +kernel
theorem dL_type_2 : decode cL_type 2 = .ok (.invokevirtual 9, 3) := by decide +kernel
theorem dL_type_5 : decode cL_type 5 = .ok (.ireturn, 1) := by decide +kernel
theorem dL_type_6 : decode cL_type 6 = .ok (.astore_n 2, 1) := by decide +kernel
theorem dL_type_7 : decode cL_type 7 = .ok (.ldc 17, 2) := by decide +kernel
theorem dL_type_9 : decode cL_type 9 = .ok (.ireturn, 1) := by decide +kernel
theorem dL_type_10 : decode cL_type 10 = .ok (.astore_n 2, 1) := by decide +kernel
theorem dL_type_11 : decode cL_type 11 = .ok (.ldc 20, 2) := by decide +kernel
theorem dL_type_13 : decode cL_type 13 = .ok (.ireturn, 1) := by decide +kernel
theorem dL_add_0 : decode cL_add 0 = .ok (.aload_n 0, 1) := by decide +kernel
theorem dL_add_1 : decode cL_add 1 = .ok (.invokevirtual 21, 3) := by decide +kernel
theorem dL_add_4 : decode cL_add 4 = .ok (.ireturn, 1) := by decide +kernel
theorem dL_add_5 : decode cL_add 5 = .ok (.astore_n 1, 1) := by decide +kernel
theorem dL_add_6 : decode cL_add 6 = .ok (.ldc 17, 2) := by decide +kernel
theorem dL_add_8 : decode cL_add 8 = .ok (.ireturn, 1) := by decide +kernel
theorem dL_add_9 : decode cL_add 9 = .ok (.astore_n 1, 1) := by decide +kernel
theorem dL_add_10 : decode cL_add 10 = .ok (.ldc 20, 2) := by decide +kernel
theorem dL_add_12 : decode cL_add 12 = .ok (.ireturn, 1) := by decide +kernel
theorem dL_insert_0 : decode cL_insert 0 = .ok (.aload_n 0, 1) := by decide +kernel
theorem dL_insert_1 : decode cL_insert 1 = .ok (.iload_n 1, 1) := by decide +kernel
theorem dL_insert_2 : decode cL_insert 2 = .ok (.iload_n 2, 1) := by decide +kernel
theorem dL_insert_3 : decode cL_insert 3 = .ok (.invokevirtual 27, 3) := by decide +kernel
theorem dL_insert_6 : decode cL_insert 6 = .ok (.ireturn, 1) := by decide +kernel
theorem dL_insert_7 : decode cL_insert 7 = .ok (.astore_n 3, 1) := by decide +kernel
theorem dL_insert_8 : decode cL_insert 8 = .ok (.ldc 17, 2) := by decide +kernel
theorem dL_insert_10 : decode cL_insert 10 = .ok (.ireturn, 1) := by decide +kernel
theorem dL_insert_11 : decode cL_insert 11 = .ok (.astore_n 3, 1) := by decide +kernel
theorem dL_insert_12 : decode cL_insert 12 = .ok (.ldc 20, 2) := by decide +kernel
theorem dL_insert_14 : decode cL_insert 14 = .ok (.ireturn, 1) := by decide +kernel
theorem dL_insert_15 : decode cL_insert 15 = .ok (.astore_n 3, 1) := by decide +kernel
theorem dL_insert_16 : decode cL_insert 16 = .ok (.ldc 33, 2) := by decide +kernel
theorem dL_insert_18 : decode cL_insert 18 = .ok (.ireturn, 1) := by decide +kernel
theorem dL_documents_0 : decode cL_documents 0 = .ok (.aload_n 0, 1) := by decide +kernel
theorem dL_documents_1 : decode cL_documents 1 = .ok (.iload_n 1, 1) := by decide +kernel
theorem dL_documents_2 : decode cL_documents 2 = .ok (.invokevirtual 34, 3) := by decide +kernel
theorem dL_documents_5 : decode cL_documents 5 = .ok (.ireturn, 1) := by decide +kernel
theorem dL_documents_6 : decode cL_documents 6 = .ok (.astore_n 2, 1) := by decide +kernel
theorem dL_documents_7 : decode cL_documents 7 = .ok (.ldc 17, 2) := by decide +kernel
theorem dL_documents_9 : decode cL_documents 9 = .ok (.ireturn, 1) := by decide +kernel
theorem dL_lengthOf_0 : decode cL_lengthOf 0 = .ok (.aload_n 0, 1) := by decide +kernel
theorem dL_lengthOf_1 : decode cL_lengthOf 1 = .ok (.iload_n 1, 1) := by decide +kernel
theorem dL_lengthOf_2 : decode cL_lengthOf 2 = .ok (.iload_n 2, 1) := by decide +kernel
theorem dL_lengthOf_3 : decode cL_lengthOf 3 = .ok (.invokevirtual 38, 3) := by decide +kernel
theorem dL_lengthOf_6 : decode cL_lengthOf 6 = .ok (.ireturn, 1) := by decide +kernel
theorem dL_lengthOf_7 : decode cL_lengthOf 7 = .ok (.astore_n 3, 1) := by decide +kernel
theorem dL_lengthOf_8 : decode cL_lengthOf 8 = .ok (.ldc 17, 2) := by decide +kernel
theorem dL_lengthOf_10 : decode cL_lengthOf 10 = .ok (.ireturn, 1) := by decide +kernel
theorem dL_snapshot_0 : decode cL_snapshot 0 = .ok (.aload_n 0, 1) := by decide +kernel
theorem dL_snapshot_1 : decode cL_snapshot 1 = .ok (.invokevirtual 41, 3) := by decide +kernel
theorem dL_snapshot_4 : decode cL_snapshot 4 = .ok (.ireturn, 1) := by decide +kernel
theorem dL_snapshot_5 : decode cL_snapshot 5 = .ok (.astore_n 1, 1) := by decide +kernel
theorem dL_snapshot_6 : decode cL_snapshot 6 = .ok (.ldc 17, 2) := by decide +kernel
theorem dL_snapshot_8 : decode cL_snapshot 8 = .ok (.ireturn, 1) := by decide +kernel
theorem dL_suffixAt_0 : decode cL_suffixAt 0 = .ok (.aload_n 0, 1) := by decide +kernel
theorem dL_suffixAt_1 : decode cL_suffixAt 1 = .ok (.iload_n 1, 1) := by decide +kernel
theorem dL_suffixAt_2 : decode cL_suffixAt 2 = .ok (.iload_n 2, 1) := by decide +kernel
theorem dL_suffixAt_3 : decode cL_suffixAt 3 = .ok (.iload_n 3, 1) := by decide +kernel
theorem dL_suffixAt_4 : decode cL_suffixAt 4 = .ok (.invokevirtual 44, 3) := by decide +kernel
theorem dL_suffixAt_7 : decode cL_suffixAt 7 = .ok (.ireturn, 1) := by decide +kernel
theorem dL_suffixAt_8 : decode cL_suffixAt 8 = .ok (.astore 4, 2) := by decide +kernel
theorem dL_suffixAt_10 : decode cL_suffixAt 10 = .ok (.ldc 17, 2) := by decide +kernel
theorem dL_suffixAt_12 : decode cL_suffixAt 12 = .ok (.ireturn, 1) := by decide +kernel
theorem dL_suffixAt_13 : decode cL_suffixAt 13 = .ok (.astore 4, 2) := by decide +kernel
theorem dL_suffixAt_15 : decode cL_suffixAt 15 = .ok (.ldc 20, 2) := by decide +kernel
theorem dL_suffixAt_17 : decode cL_suffixAt 17 = .ok (.ireturn, 1) := by decide +kernel
theorem dL_suffixAt_18 : decode cL_suffixAt 18 = .ok (.astore 4, 2) := by decide +kernel
theorem dL_suffixAt_20 : decode cL_suffixAt 20 = .ok (.ldc 33, 2) := by decide +kernel
theorem dL_suffixAt_22 : decode cL_suffixAt 22 = .ok (.ireturn, 1) := by decide +kernel
theorem dL_rankOf_0 : decode cL_rankOf 0 = .ok (.aload_n 0, 1) := by decide +kernel
theorem dL_rankOf_1 : decode cL_rankOf 1 = .ok (.iload_n 1, 1) := by decide +kernel
theorem dL_rankOf_2 : decode cL_rankOf 2 = .ok (.iload_n 2, 1) := by decide +kernel
theorem dL_rankOf_3 : decode cL_rankOf 3 = .ok (.iload_n 3, 1) := by decide +kernel
theorem dL_rankOf_4 : decode cL_rankOf 4 = .ok (.invokevirtual 50, 3) := by decide +kernel
theorem dL_rankOf_7 : decode cL_rankOf 7 = .ok (.ireturn, 1) := by decide +kernel
theorem dL_rankOf_8 : decode cL_rankOf 8 = .ok (.astore 4, 2) := by decide +kernel
theorem dL_rankOf_10 : decode cL_rankOf 10 = .ok (.ldc 17, 2) := by decide +kernel
theorem dL_rankOf_12 : decode cL_rankOf 12 = .ok (.ireturn, 1) := by decide +kernel
theorem dL_rankOf_13 : decode cL_rankOf 13 = .ok (.astore 4, 2) := by decide +kernel
theorem dL_rankOf_15 : decode cL_rankOf 15 = .ok (.ldc 20, 2) := by decide +kernel
theorem dL_rankOf_17 : decode cL_rankOf 17 = .ok (.ireturn, 1) := by decide +kernel
theorem dL_turned_0 : decode cL_turned 0 = .ok (.aload_n 0, 1) := by decide +kernel
theorem dL_turned_1 : decode cL_turned 1 = .ok (.iload_n 1, 1) := by decide +kernel
theorem dL_turned_2 : decode cL_turned 2 = .ok (.iload_n 2, 1) := by decide +kernel
theorem dL_turned_3 : decode cL_turned 3 = .ok (.invokevirtual 54, 3) := by decide +kernel
theorem dL_turned_6 : decode cL_turned 6 = .ok (.ireturn, 1) := by decide +kernel
theorem dL_turned_7 : decode cL_turned 7 = .ok (.astore_n 3, 1) := by decide +kernel
theorem dL_turned_8 : decode cL_turned 8 = .ok (.ldc 17, 2) := by decide +kernel
theorem dL_turned_10 : decode cL_turned 10 = .ok (.ireturn, 1) := by decide +kernel
theorem dL_turned_11 : decode cL_turned 11 = .ok (.astore_n 3, 1) := by decide +kernel
theorem dL_turned_12 : decode cL_turned 12 = .ok (.ldc 20, 2) := by decide +kernel
theorem dL_turned_14 : decode cL_turned 14 = .ok (.ireturn, 1) := by decide +kernel
theorem dL_runs_0 : decode cL_runs 0 = .ok (.aload_n 0, 1) := by decide +kernel
theorem dL_runs_1 : decode cL_runs 1 = .ok (.iload_n 1, 1) := by decide +kernel
theorem dL_runs_2 : decode cL_runs 2 = .ok (.invokevirtual 58, 3) := by decide +kernel
theorem dL_runs_5 : decode cL_runs 5 = .ok (.ireturn, 1) := by decide +kernel
theorem dL_runs_6 : decode cL_runs 6 = .ok (.astore_n 2, 1) := by decide +kernel
theorem dL_runs_7 : decode cL_runs 7 = .ok (.ldc 17, 2) := by decide +kernel
theorem dL_runs_9 : decode cL_runs 9 = .ok (.ireturn, 1) := by decide +kernel
theorem dL_ahead_0 : decode cL_ahead 0 = .ok (.aload_n 0, 1) := by decide +kernel
theorem dL_ahead_1 : decode cL_ahead 1 = .ok (.iload_n 1, 1) := by decide +kernel
theorem dL_ahead_2 : decode cL_ahead 2 = .ok (.iload_n 2, 1) := by decide +kernel
theorem dL_ahead_3 : decode cL_ahead 3 = .ok (.iload_n 3, 1) := by decide +kernel
theorem dL_ahead_4 : decode cL_ahead 4 = .ok (.invokevirtual 61, 3) := by decide +kernel
theorem dL_ahead_7 : decode cL_ahead 7 = .ok (.ireturn, 1) := by decide +kernel
theorem dL_ahead_8 : decode cL_ahead 8 = .ok (.astore 4, 2) := by decide +kernel
theorem dL_ahead_10 : decode cL_ahead 10 = .ok (.ldc 17, 2) := by decide +kernel
theorem dL_ahead_12 : decode cL_ahead 12 = .ok (.ireturn, 1) := by decide +kernel
theorem dL_ahead_13 : decode cL_ahead 13 = .ok (.astore 4, 2) := by decide +kernel
theorem dL_ahead_15 : decode cL_ahead 15 = .ok (.ldc 20, 2) := by decide +kernel
theorem dL_ahead_17 : decode cL_ahead 17 = .ok (.ireturn, 1) := by decide +kernel
theorem dL_count_0 : decode cL_count 0 = .ok (.aload_n 0, 1) := by decide +kernel
theorem dL_count_1 : decode cL_count 1 = .ok (.iload_n 1, 1) := by decide +kernel
theorem dL_count_2 : decode cL_count 2 = .ok (.invokevirtual 65, 3) := by decide +kernel
theorem dL_count_5 : decode cL_count 5 = .ok (.ireturn, 1) := by decide +kernel
theorem dL_count_6 : decode cL_count 6 = .ok (.astore_n 2, 1) := by decide +kernel
theorem dL_count_7 : decode cL_count 7 = .ok (.ldc 17, 2) := by decide +kernel
theorem dL_count_9 : decode cL_count 9 = .ok (.ireturn, 1) := by decide +kernel
theorem dL_count_10 : decode cL_count 10 = .ok (.astore_n 2, 1) := by decide +kernel
theorem dL_count_11 : decode cL_count 11 = .ok (.ldc 20, 2) := by decide +kernel
theorem dL_count_13 : decode cL_count 13 = .ok (.ireturn, 1) := by decide +kernel
theorem dL_interval_0 : decode cL_interval 0 = .ok (.aload_n 0, 1) := by decide +kernel
theorem dL_interval_1 : decode cL_interval 1 = .ok (.iload_n 1, 1) := by decide +kernel
theorem dL_interval_2 : decode cL_interval 2 = .ok (.iload_n 2, 1) := by decide +kernel
theorem dL_interval_3 : decode cL_interval 3 = .ok (.iload_n 3, 1) := by decide +kernel
theorem dL_interval_4 : decode cL_interval 4 = .ok (.invokevirtual 68, 3) := by decide +kernel
theorem dL_interval_7 : decode cL_interval 7 = .ok (.ireturn, 1) := by decide +kernel
theorem dL_interval_8 : decode cL_interval 8 = .ok (.astore 4, 2) := by decide +kernel
theorem dL_interval_10 : decode cL_interval 10 = .ok (.ldc 17, 2) := by decide +kernel
theorem dL_interval_12 : decode cL_interval 12 = .ok (.ireturn, 1) := by decide +kernel
theorem dL_interval_13 : decode cL_interval 13 = .ok (.astore 4, 2) := by decide +kernel
theorem dL_interval_15 : decode cL_interval 15 = .ok (.ldc 20, 2) := by decide +kernel
theorem dL_interval_17 : decode cL_interval 17 = .ok (.ireturn, 1) := by decide +kernel
theorem dL_interval_18 : decode cL_interval 18 = .ok (.astore 4, 2) := by decide +kernel
theorem dL_interval_20 : decode cL_interval 20 = .ok (.ldc 33, 2) := by decide +kernel
theorem dL_interval_22 : decode cL_interval 22 = .ok (.ireturn, 1) := by decide +kernel
theorem dL_found_0 : decode cL_found 0 = .ok (.aload_n 0, 1) := by decide +kernel
theorem dL_found_1 : decode cL_found 1 = .ok (.iload_n 1, 1) := by decide +kernel
theorem dL_found_2 : decode cL_found 2 = .ok (.iload_n 2, 1) := by decide +kernel
theorem dL_found_3 : decode cL_found 3 = .ok (.iload_n 3, 1) := by decide +kernel
theorem dL_found_4 : decode cL_found 4 = .ok (.invokevirtual 72, 3) := by decide +kernel
theorem dL_found_7 : decode cL_found 7 = .ok (.ireturn, 1) := by decide +kernel
theorem dL_found_8 : decode cL_found 8 = .ok (.astore 4, 2) := by decide +kernel
theorem dL_found_10 : decode cL_found 10 = .ok (.ldc 17, 2) := by decide +kernel
theorem dL_found_12 : decode cL_found 12 = .ok (.ireturn, 1) := by decide +kernel
theorem dL_found_13 : decode cL_found 13 = .ok (.astore 4, 2) := by decide +kernel
theorem dL_found_15 : decode cL_found 15 = .ok (.ldc 20, 2) := by decide +kernel
theorem dL_found_17 : decode cL_found 17 = .ok (.ireturn, 1) := by decide +kernel
theorem dL_found_18 : decode cL_found 18 = .ok (.astore 4, 2) := by decide +kernel
theorem dL_found_20 : decode cL_found 20 = .ok (.ldc 33, 2) := by decide +kernel
theorem dL_found_22 : decode cL_found 22 = .ok (.ireturn, 1) := by decide +kernel
theorem dL_in_0 : decode cL_in 0 = .ok (.aload_n 0, 1) := by decide +kernel
theorem dL_in_1 : decode cL_in 1 = .ok (.iload_n 1, 1) := by decide +kernel
theorem dL_in_2 : decode cL_in 2 = .ok (.invokestatic 75, 3) := by decide +kernel
theorem dL_in_5 : decode cL_in 5 = .ok (.ldc 81, 2) := by decide +kernel
theorem dL_in_7 : decode cL_in 7 = .ok (.iand, 1) := by decide +kernel
theorem dL_in_8 : decode cL_in 8 = .ok (.iload_n 2, 1) := by decide +kernel
theorem dL_in_9 : decode cL_in 9 = .ok (.irem, 1) := by decide +kernel
theorem dL_in_10 : decode cL_in 10 = .ok (.ireturn, 1) := by decide +kernel
theorem dL_typed_0 : decode cL_typed 0 = .ok (.iload_n 3, 1) := by decide +kernel
theorem dL_typed_1 : decode cL_typed 1 = .ok (.newarray .char, 2) := by decide +kernel
theorem dL_typed_3 : decode cL_typed 3 = .ok (.astore 4, 2) := by decide +kernel
theorem dL_typed_5 : decode cL_typed 5 = .ok (.aload_n 0, 1) := by decide +kernel
theorem dL_typed_6 : decode cL_typed 6 = .ok (.invokevirtual 82, 3) := by decide +kernel
theorem dL_typed_9 : decode cL_typed 9 = .ok (.istore 5, 2) := by decide +kernel
theorem dL_typed_11 : decode cL_typed 11 = .ok (.iconst 0, 1) := by decide +kernel
theorem dL_typed_12 : decode cL_typed 12 = .ok (.istore 6, 2) := by decide +kernel
theorem dL_typed_14 : decode cL_typed 14 = .ok (.iload 6, 2) := by decide +kernel
theorem dL_typed_16 : decode cL_typed 16 = .ok (.iload_n 3, 1) := by decide +kernel
theorem dL_typed_17 : decode cL_typed 17 = .ok (.if_icmp .ge 38, 3) := by decide +kernel
theorem dL_typed_20 : decode cL_typed 20 = .ok (.aload 4, 2) := by decide +kernel
theorem dL_typed_22 : decode cL_typed 22 = .ok (.iload 6, 2) := by decide +kernel
theorem dL_typed_24 : decode cL_typed 24 = .ok (.bipush 97, 2) := by decide +kernel
theorem dL_typed_26 : decode cL_typed 26 = .ok (.aload_n 1, 1) := by decide +kernel
theorem dL_typed_27 : decode cL_typed 27 = .ok (.iload_n 2, 1) := by decide +kernel
theorem dL_typed_28 : decode cL_typed 28 = .ok (.iload 6, 2) := by decide +kernel
theorem dL_typed_30 : decode cL_typed 30 = .ok (.iadd, 1) := by decide +kernel
theorem dL_typed_31 : decode cL_typed 31 = .ok (.iconst 3, 1) := by decide +kernel
theorem dL_typed_32 : decode cL_typed 32 = .ok (.invokestatic 85, 3) := by decide +kernel
theorem dL_typed_35 : decode cL_typed 35 = .ok (.iadd, 1) := by decide +kernel
theorem dL_typed_36 : decode cL_typed 36 = .ok (.i2c, 1) := by decide +kernel
theorem dL_typed_37 : decode cL_typed 37 = .ok (.castore, 1) := by decide +kernel
theorem dL_typed_38 : decode cL_typed 38 = .ok (.aload_n 0, 1) := by decide +kernel
theorem dL_typed_39 : decode cL_typed 39 = .ok (.aload 4, 2) := by decide +kernel
theorem dL_typed_41 : decode cL_typed 41 = .ok (.iload 6, 2) := by decide +kernel
theorem dL_typed_43 : decode cL_typed 43 = .ok (.caload, 1) := by decide +kernel
theorem dL_typed_44 : decode cL_typed 44 = .ok (.invokestatic 89, 3) := by decide +kernel
theorem dL_typed_47 : decode cL_typed 47 = .ok (.istore 5, 2) := by decide +kernel
theorem dL_typed_49 : decode cL_typed 49 = .ok (.iinc 6 1, 3) := by decide +kernel
theorem dL_typed_52 : decode cL_typed 52 = .ok (.goto (-38), 3) := by decide +kernel
theorem dL_typed_55 : decode cL_typed 55 = .ok (.aload 4, 2) := by decide +kernel
theorem dL_typed_57 : decode cL_typed 57 = .ok (.areturn, 1) := by decide +kernel
theorem dL_isAt_0 : decode cL_isAt 0 = .ok (.iload_n 1, 1) := by decide +kernel
theorem dL_isAt_1 : decode cL_isAt 1 = .ok (.aload_n 2, 1) := by decide +kernel
theorem dL_isAt_2 : decode cL_isAt 2 = .ok (.arraylength, 1) := by decide +kernel
theorem dL_isAt_3 : decode cL_isAt 3 = .ok (.iadd, 1) := by decide +kernel
theorem dL_isAt_4 : decode cL_isAt 4 = .ok (.aload_n 0, 1) := by decide +kernel
theorem dL_isAt_5 : decode cL_isAt 5 = .ok (.arraylength, 1) := by decide +kernel
theorem dL_isAt_6 : decode cL_isAt 6 = .ok (.if_icmp .gt 7, 3) := by decide +kernel
theorem dL_isAt_9 : decode cL_isAt 9 = .ok (.iconst 1, 1) := by decide +kernel
theorem dL_isAt_10 : decode cL_isAt 10 = .ok (.goto 4, 3) := by decide +kernel
theorem dL_isAt_13 : decode cL_isAt 13 = .ok (.iconst 0, 1) := by decide +kernel
theorem dL_isAt_14 : decode cL_isAt 14 = .ok (.istore_n 3, 1) := by decide +kernel
theorem dL_isAt_15 : decode cL_isAt 15 = .ok (.iconst 0, 1) := by decide +kernel
theorem dL_isAt_16 : decode cL_isAt 16 = .ok (.istore 4, 2) := by decide +kernel
theorem dL_isAt_18 : decode cL_isAt 18 = .ok (.iload 4, 2) := by decide +kernel
theorem dL_isAt_20 : decode cL_isAt 20 = .ok (.aload_n 2, 1) := by decide +kernel
theorem dL_isAt_21 : decode cL_isAt 21 = .ok (.arraylength, 1) := by decide +kernel
theorem dL_isAt_22 : decode cL_isAt 22 = .ok (.if_icmp .ge 32, 3) := by decide +kernel
theorem dL_isAt_25 : decode cL_isAt 25 = .ok (.iload_n 3, 1) := by decide +kernel
theorem dL_isAt_26 : decode cL_isAt 26 = .ok (.ifCond .eq 28, 3) := by decide +kernel
theorem dL_isAt_29 : decode cL_isAt 29 = .ok (.aload_n 0, 1) := by decide +kernel
theorem dL_isAt_30 : decode cL_isAt 30 = .ok (.iload_n 1, 1) := by decide +kernel
theorem dL_isAt_31 : decode cL_isAt 31 = .ok (.iload 4, 2) := by decide +kernel
theorem dL_isAt_33 : decode cL_isAt 33 = .ok (.iadd, 1) := by decide +kernel
theorem dL_isAt_34 : decode cL_isAt 34 = .ok (.caload, 1) := by decide +kernel
theorem dL_isAt_35 : decode cL_isAt 35 = .ok (.aload_n 2, 1) := by decide +kernel
theorem dL_isAt_36 : decode cL_isAt 36 = .ok (.iload 4, 2) := by decide +kernel
theorem dL_isAt_38 : decode cL_isAt 38 = .ok (.caload, 1) := by decide +kernel
theorem dL_isAt_39 : decode cL_isAt 39 = .ok (.if_icmp .ne 7, 3) := by decide +kernel
theorem dL_isAt_42 : decode cL_isAt 42 = .ok (.iconst 1, 1) := by decide +kernel
theorem dL_isAt_43 : decode cL_isAt 43 = .ok (.goto 4, 3) := by decide +kernel
theorem dL_isAt_46 : decode cL_isAt 46 = .ok (.iconst 0, 1) := by decide +kernel
theorem dL_isAt_47 : decode cL_isAt 47 = .ok (.istore_n 3, 1) := by decide +kernel
theorem dL_isAt_48 : decode cL_isAt 48 = .ok (.iinc 4 1, 3) := by decide +kernel
theorem dL_isAt_51 : decode cL_isAt 51 = .ok (.goto (-33), 3) := by decide +kernel
theorem dL_isAt_54 : decode cL_isAt 54 = .ok (.iload_n 3, 1) := by decide +kernel
theorem dL_isAt_55 : decode cL_isAt 55 = .ok (.ireturn, 1) := by decide +kernel
theorem dL_law_0 : decode cL_law 0 = .ok (.new 10, 3) := by decide +kernel
theorem dL_law_3 : decode cL_law 3 = .ok (.dup, 1) := by decide +kernel
theorem dL_law_4 : decode cL_law 4 = .ok (.invokespecial 92, 3) := by decide +kernel
theorem dL_law_7 : decode cL_law 7 = .ok (.astore_n 1, 1) := by decide +kernel
theorem dL_law_8 : decode cL_law 8 = .ok (.aload_n 1, 1) := by decide +kernel
theorem dL_law_9 : decode cL_law 9 = .ok (.iconst 0, 1) := by decide +kernel
theorem dL_law_10 : decode cL_law 10 = .ok (.invokestatic 93, 3) := by decide +kernel
theorem dL_law_13 : decode cL_law 13 = .ok (.ldc 17, 2) := by decide +kernel
theorem dL_law_15 : decode cL_law 15 = .ok (.if_icmp .ne 48, 3) := by decide +kernel
theorem dL_law_18 : decode cL_law 18 = .ok (.aload_n 1, 1) := by decide +kernel
theorem dL_law_19 : decode cL_law 19 = .ok (.invokestatic 96, 3) := by decide +kernel
theorem dL_law_22 : decode cL_law 22 = .ok (.ldc 17, 2) := by decide +kernel
theorem dL_law_24 : decode cL_law 24 = .ok (.if_icmp .ne 39, 3) := by decide +kernel
theorem dL_law_27 : decode cL_law 27 = .ok (.aload_n 1, 1) := by decide +kernel
theorem dL_law_28 : decode cL_law 28 = .ok (.iconst (-1), 1) := by decide +kernel
theorem dL_law_29 : decode cL_law 29 = .ok (.invokestatic 99, 3) := by decide +kernel
theorem dL_law_32 : decode cL_law 32 = .ok (.ifCond .ne 31, 3) := by decide +kernel
theorem dL_law_35 : decode cL_law 35 = .ok (.aload_n 1, 1) := by decide +kernel
theorem dL_law_36 : decode cL_law 36 = .ok (.iconst (-1), 1) := by decide +kernel
theorem dL_law_37 : decode cL_law 37 = .ok (.iconst 0, 1) := by decide +kernel
theorem dL_law_38 : decode cL_law 38 = .ok (.bipush 120, 2) := by decide +kernel
theorem dL_law_40 : decode cL_law 40 = .ok (.invokestatic 101, 3) := by decide +kernel
theorem dL_law_43 : decode cL_law 43 = .ok (.ldc 20, 2) := by decide +kernel
theorem dL_law_45 : decode cL_law 45 = .ok (.if_icmp .ne 18, 3) := by decide +kernel
theorem dL_law_48 : decode cL_law 48 = .ok (.aload_n 1, 1) := by decide +kernel
theorem dL_law_49 : decode cL_law 49 = .ok (.bipush 102, 2) := by decide +kernel
theorem dL_law_51 : decode cL_law 51 = .ok (.invokestatic 89, 3) := by decide +kernel
theorem dL_law_54 : decode cL_law 54 = .ok (.ldc 17, 2) := by decide +kernel
theorem dL_law_56 : decode cL_law 56 = .ok (.if_icmp .ne 7, 3) := by decide +kernel
theorem dL_law_59 : decode cL_law 59 = .ok (.iconst 1, 1) := by decide +kernel
theorem dL_law_60 : decode cL_law 60 = .ok (.goto 4, 3) := by decide +kernel
theorem dL_law_63 : decode cL_law 63 = .ok (.iconst 0, 1) := by decide +kernel
theorem dL_law_64 : decode cL_law 64 = .ok (.istore_n 2, 1) := by decide +kernel
theorem dL_law_65 : decode cL_law 65 = .ok (.iconst 1, 1) := by decide +kernel
theorem dL_law_66 : decode cL_law 66 = .ok (.aload_n 0, 1) := by decide +kernel
theorem dL_law_67 : decode cL_law 67 = .ok (.iconst 0, 1) := by decide +kernel
theorem dL_law_68 : decode cL_law 68 = .ok (.iconst 3, 1) := by decide +kernel
theorem dL_law_69 : decode cL_law 69 = .ok (.invokestatic 85, 3) := by decide +kernel
theorem dL_law_72 : decode cL_law 72 = .ok (.iadd, 1) := by decide +kernel
theorem dL_law_73 : decode cL_law 73 = .ok (.istore_n 3, 1) := by decide +kernel
theorem dL_law_74 : decode cL_law 74 = .ok (.iload_n 3, 1) := by decide +kernel
theorem dL_law_75 : decode cL_law 75 = .ok (.anewarray 104, 3) := by decide +kernel
theorem dL_law_78 : decode cL_law 78 = .ok (.astore 4, 2) := by decide +kernel
theorem dL_law_80 : decode cL_law 80 = .ok (.iconst 0, 1) := by decide +kernel
theorem dL_law_81 : decode cL_law 81 = .ok (.istore 5, 2) := by decide +kernel
theorem dL_law_83 : decode cL_law 83 = .ok (.iconst 0, 1) := by decide +kernel
theorem dL_law_84 : decode cL_law 84 = .ok (.istore 6, 2) := by decide +kernel
theorem dL_law_86 : decode cL_law 86 = .ok (.iload 6, 2) := by decide +kernel
theorem dL_law_88 : decode cL_law 88 = .ok (.iload_n 3, 1) := by decide +kernel
theorem dL_law_89 : decode cL_law 89 = .ok (.if_icmp .ge 83, 3) := by decide +kernel
theorem dL_law_92 : decode cL_law 92 = .ok (.aload 4, 2) := by decide +kernel
theorem dL_law_94 : decode cL_law 94 = .ok (.iload 6, 2) := by decide +kernel
theorem dL_law_96 : decode cL_law 96 = .ok (.aload_n 1, 1) := by decide +kernel
theorem dL_law_97 : decode cL_law 97 = .ok (.aload_n 0, 1) := by decide +kernel
theorem dL_law_98 : decode cL_law 98 = .ok (.bipush 10, 2) := by decide +kernel
theorem dL_law_100 : decode cL_law 100 = .ok (.bipush 20, 2) := by decide +kernel
theorem dL_law_102 : decode cL_law 102 = .ok (.iload 6, 2) := by decide +kernel
theorem dL_law_104 : decode cL_law 104 = .ok (.imul, 1) := by decide +kernel
theorem dL_law_105 : decode cL_law 105 = .ok (.iadd, 1) := by decide +kernel
theorem dL_law_106 : decode cL_law 106 = .ok (.iconst 1, 1) := by decide +kernel
theorem dL_law_107 : decode cL_law 107 = .ok (.aload_n 0, 1) := by decide +kernel
theorem dL_law_108 : decode cL_law 108 = .ok (.iconst 1, 1) := by decide +kernel
theorem dL_law_109 : decode cL_law 109 = .ok (.iload 6, 2) := by decide +kernel
theorem dL_law_111 : decode cL_law 111 = .ok (.iadd, 1) := by decide +kernel
theorem dL_law_112 : decode cL_law 112 = .ok (.bipush 9, 2) := by decide +kernel
theorem dL_law_114 : decode cL_law 114 = .ok (.invokestatic 85, 3) := by decide +kernel
theorem dL_law_117 : decode cL_law 117 = .ok (.iadd, 1) := by decide +kernel
theorem dL_law_118 : decode cL_law 118 = .ok (.invokestatic 106, 3) := by decide +kernel
theorem dL_law_121 : decode cL_law 121 = .ok (.aastore, 1) := by decide +kernel
theorem dL_law_122 : decode cL_law 122 = .ok (.iload_n 2, 1) := by decide +kernel
theorem dL_law_123 : decode cL_law 123 = .ok (.aload_n 1, 1) := by decide +kernel
theorem dL_law_124 : decode cL_law 124 = .ok (.invokestatic 96, 3) := by decide +kernel
theorem dL_law_127 : decode cL_law 127 = .ok (.iload 6, 2) := by decide +kernel
theorem dL_law_129 : decode cL_law 129 = .ok (.if_icmp .ne 23, 3) := by decide +kernel
theorem dL_law_132 : decode cL_law 132 = .ok (.aload_n 1, 1) := by decide +kernel
theorem dL_law_133 : decode cL_law 133 = .ok (.iconst (-1), 1) := by decide +kernel
theorem dL_law_134 : decode cL_law 134 = .ok (.iload 6, 2) := by decide +kernel
theorem dL_law_136 : decode cL_law 136 = .ok (.invokestatic 110, 3) := by decide +kernel
theorem dL_law_139 : decode cL_law 139 = .ok (.aload 4, 2) := by decide +kernel
theorem dL_law_141 : decode cL_law 141 = .ok (.iload 6, 2) := by decide +kernel
theorem dL_law_143 : decode cL_law 143 = .ok (.aaload, 1) := by decide +kernel
theorem dL_law_144 : decode cL_law 144 = .ok (.arraylength, 1) := by decide +kernel
theorem dL_law_145 : decode cL_law 145 = .ok (.if_icmp .ne 7, 3) := by decide +kernel
theorem dL_law_148 : decode cL_law 148 = .ok (.iconst 1, 1) := by decide +kernel
theorem dL_law_149 : decode cL_law 149 = .ok (.goto 4, 3) := by decide +kernel
theorem dL_law_152 : decode cL_law 152 = .ok (.iconst 0, 1) := by decide +kernel
theorem dL_law_153 : decode cL_law 153 = .ok (.iand, 1) := by decide +kernel
theorem dL_law_154 : decode cL_law 154 = .ok (.istore_n 2, 1) := by decide +kernel
theorem dL_law_155 : decode cL_law 155 = .ok (.iload 5, 2) := by decide +kernel
theorem dL_law_157 : decode cL_law 157 = .ok (.aload 4, 2) := by decide +kernel
theorem dL_law_159 : decode cL_law 159 = .ok (.iload 6, 2) := by decide +kernel
theorem dL_law_161 : decode cL_law 161 = .ok (.aaload, 1) := by decide +kernel
theorem dL_law_162 : decode cL_law 162 = .ok (.arraylength, 1) := by decide +kernel
theorem dL_law_163 : decode cL_law 163 = .ok (.iadd, 1) := by decide +kernel
theorem dL_law_164 : decode cL_law 164 = .ok (.istore 5, 2) := by decide +kernel
theorem dL_law_166 : decode cL_law 166 = .ok (.iinc 6 1, 3) := by decide +kernel
theorem dL_law_169 : decode cL_law 169 = .ok (.goto (-83), 3) := by decide +kernel
theorem dL_law_172 : decode cL_law 172 = .ok (.aload_n 0, 1) := by decide +kernel
theorem dL_law_173 : decode cL_law 173 = .ok (.iconst 5, 1) := by decide +kernel
theorem dL_law_174 : decode cL_law 174 = .ok (.iconst 2, 1) := by decide +kernel
theorem dL_law_175 : decode cL_law 175 = .ok (.invokestatic 85, 3) := by decide +kernel
theorem dL_law_178 : decode cL_law 178 = .ok (.ifCond .ne 7, 3) := by decide +kernel
theorem dL_law_181 : decode cL_law 181 = .ok (.iconst (-1), 1) := by decide +kernel
theorem dL_law_182 : decode cL_law 182 = .ok (.goto 4, 3) := by decide +kernel
theorem dL_law_185 : decode cL_law 185 = .ok (.iconst 0, 1) := by decide +kernel
theorem dL_law_186 : decode cL_law 186 = .ok (.istore 6, 2) := by decide +kernel
theorem dL_law_188 : decode cL_law 188 = .ok (.iload 6, 2) := by decide +kernel
theorem dL_law_190 : decode cL_law 190 = .ok (.ifCond .ne 54, 3) := by decide +kernel
theorem dL_law_193 : decode cL_law 193 = .ok (.iload_n 2, 1) := by decide +kernel
theorem dL_law_194 : decode cL_law 194 = .ok (.aload_n 1, 1) := by decide +kernel
theorem dL_law_195 : decode cL_law 195 = .ok (.invokestatic 113, 3) := by decide +kernel
theorem dL_law_198 : decode cL_law 198 = .ok (.ifCond .ne 7, 3) := by decide +kernel
theorem dL_law_201 : decode cL_law 201 = .ok (.iconst 1, 1) := by decide +kernel
theorem dL_law_202 : decode cL_law 202 = .ok (.goto 4, 3) := by decide +kernel
theorem dL_law_205 : decode cL_law 205 = .ok (.iconst 0, 1) := by decide +kernel
theorem dL_law_206 : decode cL_law 206 = .ok (.iand, 1) := by decide +kernel
theorem dL_law_207 : decode cL_law 207 = .ok (.istore_n 2, 1) := by decide +kernel
theorem dL_law_208 : decode cL_law 208 = .ok (.aload_n 1, 1) := by decide +kernel
theorem dL_law_209 : decode cL_law 209 = .ok (.aload_n 0, 1) := by decide +kernel
theorem dL_law_210 : decode cL_law 210 = .ok (.bipush 80, 2) := by decide +kernel
theorem dL_law_212 : decode cL_law 212 = .ok (.iconst 3, 1) := by decide +kernel
theorem dL_law_213 : decode cL_law 213 = .ok (.invokestatic 106, 3) := by decide +kernel
theorem dL_law_216 : decode cL_law 216 = .ok (.astore 7, 2) := by decide +kernel
theorem dL_law_218 : decode cL_law 218 = .ok (.iload_n 2, 1) := by decide +kernel
theorem dL_law_219 : decode cL_law 219 = .ok (.aload_n 1, 1) := by decide +kernel
theorem dL_law_220 : decode cL_law 220 = .ok (.iconst 0, 1) := by decide +kernel
theorem dL_law_221 : decode cL_law 221 = .ok (.iconst 0, 1) := by decide +kernel
theorem dL_law_222 : decode cL_law 222 = .ok (.invokestatic 115, 3) := by decide +kernel
theorem dL_law_225 : decode cL_law 225 = .ok (.aload 4, 2) := by decide +kernel
theorem dL_law_227 : decode cL_law 227 = .ok (.iconst 0, 1) := by decide +kernel
theorem dL_law_228 : decode cL_law 228 = .ok (.aaload, 1) := by decide +kernel
theorem dL_law_229 : decode cL_law 229 = .ok (.arraylength, 1) := by decide +kernel
theorem dL_law_230 : decode cL_law 230 = .ok (.aload 7, 2) := by decide +kernel
theorem dL_law_232 : decode cL_law 232 = .ok (.arraylength, 1) := by decide +kernel
theorem dL_law_233 : decode cL_law 233 = .ok (.iadd, 1) := by decide +kernel
theorem dL_law_234 : decode cL_law 234 = .ok (.if_icmp .ne 7, 3) := by decide +kernel
theorem dL_law_237 : decode cL_law 237 = .ok (.iconst 1, 1) := by decide +kernel
theorem dL_law_238 : decode cL_law 238 = .ok (.goto 4, 3) := by decide +kernel
theorem dL_law_241 : decode cL_law 241 = .ok (.iconst 0, 1) := by decide +kernel
theorem dL_law_242 : decode cL_law 242 = .ok (.iand, 1) := by decide +kernel
theorem dL_law_243 : decode cL_law 243 = .ok (.istore_n 2, 1) := by decide +kernel
theorem dL_law_244 : decode cL_law 244 = .ok (.iload 5, 2) := by decide +kernel
theorem dL_law_246 : decode cL_law 246 = .ok (.newarray .int, 2) := by decide +kernel
theorem dL_law_248 : decode cL_law 248 = .ok (.astore 7, 2) := by decide +kernel
theorem dL_law_250 : decode cL_law 250 = .ok (.iload 5, 2) := by decide +kernel
theorem dL_law_252 : decode cL_law 252 = .ok (.newarray .int, 2) := by decide +kernel
theorem dL_law_254 : decode cL_law 254 = .ok (.astore 8, 2) := by decide +kernel
theorem dL_law_256 : decode cL_law 256 = .ok (.iconst 0, 1) := by decide +kernel
theorem dL_law_257 : decode cL_law 257 = .ok (.istore 9, 2) := by decide +kernel
theorem dL_law_259 : decode cL_law 259 = .ok (.iconst 0, 1) := by decide +kernel
theorem dL_law_260 : decode cL_law 260 = .ok (.istore 10, 2) := by decide +kernel
theorem dL_law_262 : decode cL_law 262 = .ok (.iload 10, 2) := by decide +kernel
theorem dL_law_264 : decode cL_law 264 = .ok (.iload_n 3, 1) := by decide +kernel
theorem dL_law_265 : decode cL_law 265 = .ok (.if_icmp .ge 266, 3) := by decide +kernel
theorem dL_law_268 : decode cL_law 268 = .ok (.iconst 0, 1) := by decide +kernel
theorem dL_law_269 : decode cL_law 269 = .ok (.istore 11, 2) := by decide +kernel
theorem dL_law_271 : decode cL_law 271 = .ok (.iload 11, 2) := by decide +kernel
theorem dL_law_273 : decode cL_law 273 = .ok (.aload 4, 2) := by decide +kernel
theorem dL_law_275 : decode cL_law 275 = .ok (.iload 10, 2) := by decide +kernel
theorem dL_law_277 : decode cL_law 277 = .ok (.aaload, 1) := by decide +kernel
theorem dL_law_278 : decode cL_law 278 = .ok (.arraylength, 1) := by decide +kernel
theorem dL_law_279 : decode cL_law 279 = .ok (.if_icmp .ge 246, 3) := by decide +kernel
theorem dL_law_282 : decode cL_law 282 = .ok (.iload 9, 2) := by decide +kernel
theorem dL_law_284 : decode cL_law 284 = .ok (.istore 12, 2) := by decide +kernel
theorem dL_law_286 : decode cL_law 286 = .ok (.iconst 1, 1) := by decide +kernel
theorem dL_law_287 : decode cL_law 287 = .ok (.istore 13, 2) := by decide +kernel
theorem dL_law_289 : decode cL_law 289 = .ok (.iload 12, 2) := by decide +kernel
theorem dL_law_291 : decode cL_law 291 = .ok (.ifCond .le 211, 3) := by decide +kernel
theorem dL_law_294 : decode cL_law 294 = .ok (.iload 13, 2) := by decide +kernel
theorem dL_law_296 : decode cL_law 296 = .ok (.ifCond .eq 206, 3) := by decide +kernel
theorem dL_law_299 : decode cL_law 299 = .ok (.aload 4, 2) := by decide +kernel
theorem dL_law_301 : decode cL_law 301 = .ok (.aload 7, 2) := by decide +kernel
theorem dL_law_303 : decode cL_law 303 = .ok (.iload 12, 2) := by decide +kernel
theorem dL_law_305 : decode cL_law 305 = .ok (.iconst 1, 1) := by decide +kernel
theorem dL_law_306 : decode cL_law 306 = .ok (.isub, 1) := by decide +kernel
theorem dL_law_307 : decode cL_law 307 = .ok (.iaload, 1) := by decide +kernel
theorem dL_law_308 : decode cL_law 308 = .ok (.aaload, 1) := by decide +kernel
theorem dL_law_309 : decode cL_law 309 = .ok (.astore 14, 2) := by decide +kernel
theorem dL_law_311 : decode cL_law 311 = .ok (.aload 8, 2) := by decide +kernel
theorem dL_law_313 : decode cL_law 313 = .ok (.iload 12, 2) := by decide +kernel
theorem dL_law_315 : decode cL_law 315 = .ok (.iconst 1, 1) := by decide +kernel
theorem dL_law_316 : decode cL_law 316 = .ok (.isub, 1) := by decide +kernel
theorem dL_law_317 : decode cL_law 317 = .ok (.iaload, 1) := by decide +kernel
theorem dL_law_318 : decode cL_law 318 = .ok (.istore 15, 2) := by decide +kernel
theorem dL_law_320 : decode cL_law 320 = .ok (.iconst 0, 1) := by decide +kernel
theorem dL_law_321 : decode cL_law 321 = .ok (.istore 16, 2) := by decide +kernel
theorem dL_law_323 : decode cL_law 323 = .ok (.iload 11, 2) := by decide +kernel
theorem dL_law_325 : decode cL_law 325 = .ok (.iload 16, 2) := by decide +kernel
theorem dL_law_327 : decode cL_law 327 = .ok (.iadd, 1) := by decide +kernel
theorem dL_law_328 : decode cL_law 328 = .ok (.aload 4, 2) := by decide +kernel
theorem dL_law_330 : decode cL_law 330 = .ok (.iload 10, 2) := by decide +kernel
theorem dL_law_332 : decode cL_law 332 = .ok (.aaload, 1) := by decide +kernel
theorem dL_law_333 : decode cL_law 333 = .ok (.arraylength, 1) := by decide +kernel
theorem dL_law_334 : decode cL_law 334 = .ok (.if_icmp .ge 42, 3) := by decide +kernel
theorem dL_law_337 : decode cL_law 337 = .ok (.iload 15, 2) := by decide +kernel
theorem dL_law_339 : decode cL_law 339 = .ok (.iload 16, 2) := by decide +kernel
theorem dL_law_341 : decode cL_law 341 = .ok (.iadd, 1) := by decide +kernel
theorem dL_law_342 : decode cL_law 342 = .ok (.aload 14, 2) := by decide +kernel
theorem dL_law_344 : decode cL_law 344 = .ok (.arraylength, 1) := by decide +kernel
theorem dL_law_345 : decode cL_law 345 = .ok (.if_icmp .ge 31, 3) := by decide +kernel
theorem dL_law_348 : decode cL_law 348 = .ok (.aload 4, 2) := by decide +kernel
theorem dL_law_350 : decode cL_law 350 = .ok (.iload 10, 2) := by decide +kernel
theorem dL_law_352 : decode cL_law 352 = .ok (.aaload, 1) := by decide +kernel
theorem dL_law_353 : decode cL_law 353 = .ok (.iload 11, 2) := by decide +kernel
theorem dL_law_355 : decode cL_law 355 = .ok (.iload 16, 2) := by decide +kernel
theorem dL_law_357 : decode cL_law 357 = .ok (.iadd, 1) := by decide +kernel
theorem dL_law_358 : decode cL_law 358 = .ok (.caload, 1) := by decide +kernel
theorem dL_law_359 : decode cL_law 359 = .ok (.aload 14, 2) := by decide +kernel
theorem dL_law_361 : decode cL_law 361 = .ok (.iload 15, 2) := by decide +kernel
theorem dL_law_363 : decode cL_law 363 = .ok (.iload 16, 2) := by decide +kernel
theorem dL_law_365 : decode cL_law 365 = .ok (.iadd, 1) := by decide +kernel
theorem dL_law_366 : decode cL_law 366 = .ok (.caload, 1) := by decide +kernel
theorem dL_law_367 : decode cL_law 367 = .ok (.if_icmp .ne 9, 3) := by decide +kernel
theorem dL_law_370 : decode cL_law 370 = .ok (.iinc 16 1, 3) := by decide +kernel
theorem dL_law_373 : decode cL_law 373 = .ok (.goto (-50), 3) := by decide +kernel
theorem dL_law_376 : decode cL_law 376 = .ok (.iload 11, 2) := by decide +kernel
theorem dL_law_378 : decode cL_law 378 = .ok (.iload 16, 2) := by decide +kernel
theorem dL_law_380 : decode cL_law 380 = .ok (.iadd, 1) := by decide +kernel
theorem dL_law_381 : decode cL_law 381 = .ok (.aload 4, 2) := by decide +kernel
theorem dL_law_383 : decode cL_law 383 = .ok (.iload 10, 2) := by decide +kernel
theorem dL_law_385 : decode cL_law 385 = .ok (.aaload, 1) := by decide +kernel
theorem dL_law_386 : decode cL_law 386 = .ok (.arraylength, 1) := by decide +kernel
theorem dL_law_387 : decode cL_law 387 = .ok (.if_icmp .ne 7, 3) := by decide +kernel
theorem dL_law_390 : decode cL_law 390 = .ok (.iconst 1, 1) := by decide +kernel
theorem dL_law_391 : decode cL_law 391 = .ok (.goto 4, 3) := by decide +kernel
theorem dL_law_394 : decode cL_law 394 = .ok (.iconst 0, 1) := by decide +kernel
theorem dL_law_395 : decode cL_law 395 = .ok (.istore 17, 2) := by decide +kernel
theorem dL_law_397 : decode cL_law 397 = .ok (.iload 15, 2) := by decide +kernel
theorem dL_law_399 : decode cL_law 399 = .ok (.iload 16, 2) := by decide +kernel
theorem dL_law_401 : decode cL_law 401 = .ok (.iadd, 1) := by decide +kernel
theorem dL_law_402 : decode cL_law 402 = .ok (.aload 14, 2) := by decide +kernel
theorem dL_law_404 : decode cL_law 404 = .ok (.arraylength, 1) := by decide +kernel
theorem dL_law_405 : decode cL_law 405 = .ok (.if_icmp .ne 7, 3) := by decide +kernel
theorem dL_law_408 : decode cL_law 408 = .ok (.iconst 1, 1) := by decide +kernel
theorem dL_law_409 : decode cL_law 409 = .ok (.goto 4, 3) := by decide +kernel
theorem dL_law_412 : decode cL_law 412 = .ok (.iconst 0, 1) := by decide +kernel
theorem dL_law_413 : decode cL_law 413 = .ok (.istore 18, 2) := by decide +kernel
theorem dL_law_415 : decode cL_law 415 = .ok (.iload 17, 2) := by decide +kernel
theorem dL_law_417 : decode cL_law 417 = .ok (.ifCond .eq 16, 3) := by decide +kernel
theorem dL_law_420 : decode cL_law 420 = .ok (.iload 18, 2) := by decide +kernel
theorem dL_law_422 : decode cL_law 422 = .ok (.ifCond .ne 7, 3) := by decide +kernel
theorem dL_law_425 : decode cL_law 425 = .ok (.iconst 1, 1) := by decide +kernel
theorem dL_law_426 : decode cL_law 426 = .ok (.goto 39, 3) := by decide +kernel
theorem dL_law_429 : decode cL_law 429 = .ok (.iconst 0, 1) := by decide +kernel
theorem dL_law_430 : decode cL_law 430 = .ok (.goto 35, 3) := by decide +kernel
theorem dL_law_433 : decode cL_law 433 = .ok (.iload 18, 2) := by decide +kernel
theorem dL_law_435 : decode cL_law 435 = .ok (.ifCond .ne 29, 3) := by decide +kernel
theorem dL_law_438 : decode cL_law 438 = .ok (.aload 4, 2) := by decide +kernel
theorem dL_law_440 : decode cL_law 440 = .ok (.iload 10, 2) := by decide +kernel
theorem dL_law_442 : decode cL_law 442 = .ok (.aaload, 1) := by decide +kernel
theorem dL_law_443 : decode cL_law 443 = .ok (.iload 11, 2) := by decide +kernel
theorem dL_law_445 : decode cL_law 445 = .ok (.iload 16, 2) := by decide +kernel
theorem dL_law_447 : decode cL_law 447 = .ok (.iadd, 1) := by decide +kernel
theorem dL_law_448 : decode cL_law 448 = .ok (.caload, 1) := by decide +kernel
theorem dL_law_449 : decode cL_law 449 = .ok (.aload 14, 2) := by decide +kernel
theorem dL_law_451 : decode cL_law 451 = .ok (.iload 15, 2) := by decide +kernel
theorem dL_law_453 : decode cL_law 453 = .ok (.iload 16, 2) := by decide +kernel
theorem dL_law_455 : decode cL_law 455 = .ok (.iadd, 1) := by decide +kernel
theorem dL_law_456 : decode cL_law 456 = .ok (.caload, 1) := by decide +kernel
theorem dL_law_457 : decode cL_law 457 = .ok (.if_icmp .ge 7, 3) := by decide +kernel
theorem dL_law_460 : decode cL_law 460 = .ok (.iconst 1, 1) := by decide +kernel
theorem dL_law_461 : decode cL_law 461 = .ok (.goto 4, 3) := by decide +kernel
theorem dL_law_464 : decode cL_law 464 = .ok (.iconst 0, 1) := by decide +kernel
theorem dL_law_465 : decode cL_law 465 = .ok (.istore 13, 2) := by decide +kernel
theorem dL_law_467 : decode cL_law 467 = .ok (.iload 13, 2) := by decide +kernel
theorem dL_law_469 : decode cL_law 469 = .ok (.ifCond .eq 30, 3) := by decide +kernel
theorem dL_law_472 : decode cL_law 472 = .ok (.aload 7, 2) := by decide +kernel
theorem dL_law_474 : decode cL_law 474 = .ok (.iload 12, 2) := by decide +kernel
theorem dL_law_476 : decode cL_law 476 = .ok (.aload 7, 2) := by decide +kernel
theorem dL_law_478 : decode cL_law 478 = .ok (.iload 12, 2) := by decide +kernel
theorem dL_law_480 : decode cL_law 480 = .ok (.iconst 1, 1) := by decide +kernel
theorem dL_law_481 : decode cL_law 481 = .ok (.isub, 1) := by decide +kernel
theorem dL_law_482 : decode cL_law 482 = .ok (.iaload, 1) := by decide +kernel
theorem dL_law_483 : decode cL_law 483 = .ok (.iastore, 1) := by decide +kernel
theorem dL_law_484 : decode cL_law 484 = .ok (.aload 8, 2) := by decide +kernel
theorem dL_law_486 : decode cL_law 486 = .ok (.iload 12, 2) := by decide +kernel
theorem dL_law_488 : decode cL_law 488 = .ok (.aload 8, 2) := by decide +kernel
theorem dL_law_490 : decode cL_law 490 = .ok (.iload 12, 2) := by decide +kernel
theorem dL_law_492 : decode cL_law 492 = .ok (.iconst 1, 1) := by decide +kernel
theorem dL_law_493 : decode cL_law 493 = .ok (.isub, 1) := by decide +kernel
theorem dL_law_494 : decode cL_law 494 = .ok (.iaload, 1) := by decide +kernel
theorem dL_law_495 : decode cL_law 495 = .ok (.iastore, 1) := by decide +kernel
theorem dL_law_496 : decode cL_law 496 = .ok (.iinc 12 (-1), 3) := by decide +kernel
theorem dL_law_499 : decode cL_law 499 = .ok (.goto (-210), 3) := by decide +kernel
theorem dL_law_502 : decode cL_law 502 = .ok (.aload 7, 2) := by decide +kernel
theorem dL_law_504 : decode cL_law 504 = .ok (.iload 12, 2) := by decide +kernel
theorem dL_law_506 : decode cL_law 506 = .ok (.iload 10, 2) := by decide +kernel
theorem dL_law_508 : decode cL_law 508 = .ok (.iastore, 1) := by decide +kernel
theorem dL_law_509 : decode cL_law 509 = .ok (.aload 8, 2) := by decide +kernel
theorem dL_law_511 : decode cL_law 511 = .ok (.iload 12, 2) := by decide +kernel
theorem dL_law_513 : decode cL_law 513 = .ok (.iload 11, 2) := by decide +kernel
theorem dL_law_515 : decode cL_law 515 = .ok (.iastore, 1) := by decide +kernel
theorem dL_law_516 : decode cL_law 516 = .ok (.iinc 9 1, 3) := by decide +kernel
theorem dL_law_519 : decode cL_law 519 = .ok (.iinc 11 1, 3) := by decide +kernel
theorem dL_law_522 : decode cL_law 522 = .ok (.goto (-251), 3) := by decide +kernel
theorem dL_law_525 : decode cL_law 525 = .ok (.iinc 10 1, 3) := by decide +kernel
theorem dL_law_528 : decode cL_law 528 = .ok (.goto (-266), 3) := by decide +kernel
theorem dL_law_531 : decode cL_law 531 = .ok (.iconst 0, 1) := by decide +kernel
theorem dL_law_532 : decode cL_law 532 = .ok (.istore 10, 2) := by decide +kernel
theorem dL_law_534 : decode cL_law 534 = .ok (.bipush 32, 2) := by decide +kernel
theorem dL_law_536 : decode cL_law 536 = .ok (.istore 11, 2) := by decide +kernel
theorem dL_law_538 : decode cL_law 538 = .ok (.iconst 4, 1) := by decide +kernel
theorem dL_law_539 : decode cL_law 539 = .ok (.newarray .int, 2) := by decide +kernel
theorem dL_law_541 : decode cL_law 541 = .ok (.astore 12, 2) := by decide +kernel
theorem dL_law_543 : decode cL_law 543 = .ok (.iconst 0, 1) := by decide +kernel
theorem dL_law_544 : decode cL_law 544 = .ok (.istore 13, 2) := by decide +kernel
theorem dL_law_546 : decode cL_law 546 = .ok (.iload 13, 2) := by decide +kernel
theorem dL_law_548 : decode cL_law 548 = .ok (.iload 5, 2) := by decide +kernel
theorem dL_law_550 : decode cL_law 550 = .ok (.if_icmp .ge 192, 3) := by decide +kernel
theorem dL_law_553 : decode cL_law 553 = .ok (.aload 8, 2) := by decide +kernel
theorem dL_law_555 : decode cL_law 555 = .ok (.iload 13, 2) := by decide +kernel
theorem dL_law_557 : decode cL_law 557 = .ok (.iaload, 1) := by decide +kernel
theorem dL_law_558 : decode cL_law 558 = .ok (.ifCond .ne 8, 3) := by decide +kernel
theorem dL_law_561 : decode cL_law 561 = .ok (.bipush 36, 2) := by decide +kernel
theorem dL_law_563 : decode cL_law 563 = .ok (.goto 19, 3) := by decide +kernel
theorem dL_law_566 : decode cL_law 566 = .ok (.aload 4, 2) := by decide +kernel
theorem dL_law_568 : decode cL_law 568 = .ok (.aload 7, 2) := by decide +kernel
theorem dL_law_570 : decode cL_law 570 = .ok (.iload 13, 2) := by decide +kernel
theorem dL_law_572 : decode cL_law 572 = .ok (.iaload, 1) := by decide +kernel
theorem dL_law_573 : decode cL_law 573 = .ok (.aaload, 1) := by decide +kernel
theorem dL_law_574 : decode cL_law 574 = .ok (.aload 8, 2) := by decide +kernel
theorem dL_law_576 : decode cL_law 576 = .ok (.iload 13, 2) := by decide +kernel
theorem dL_law_578 : decode cL_law 578 = .ok (.iaload, 1) := by decide +kernel
theorem dL_law_579 : decode cL_law 579 = .ok (.iconst 1, 1) := by decide +kernel
theorem dL_law_580 : decode cL_law 580 = .ok (.isub, 1) := by decide +kernel
theorem dL_law_581 : decode cL_law 581 = .ok (.caload, 1) := by decide +kernel
theorem dL_law_582 : decode cL_law 582 = .ok (.istore 14, 2) := by decide +kernel
theorem dL_law_584 : decode cL_law 584 = .ok (.iload 10, 2) := by decide +kernel
theorem dL_law_586 : decode cL_law 586 = .ok (.iload 14, 2) := by decide +kernel
theorem dL_law_588 : decode cL_law 588 = .ok (.iload 11, 2) := by decide +kernel
theorem dL_law_590 : decode cL_law 590 = .ok (.if_icmp .ne 7, 3) := by decide +kernel
theorem dL_law_593 : decode cL_law 593 = .ok (.iconst 0, 1) := by decide +kernel
theorem dL_law_594 : decode cL_law 594 = .ok (.goto 4, 3) := by decide +kernel
theorem dL_law_597 : decode cL_law 597 = .ok (.iconst 1, 1) := by decide +kernel
theorem dL_law_598 : decode cL_law 598 = .ok (.iadd, 1) := by decide +kernel
theorem dL_law_599 : decode cL_law 599 = .ok (.istore 10, 2) := by decide +kernel
theorem dL_law_601 : decode cL_law 601 = .ok (.iload 14, 2) := by decide +kernel
theorem dL_law_603 : decode cL_law 603 = .ok (.istore 11, 2) := by decide +kernel
theorem dL_law_605 : decode cL_law 605 = .ok (.iload 14, 2) := by decide +kernel
theorem dL_law_607 : decode cL_law 607 = .ok (.bipush 36, 2) := by decide +kernel
theorem dL_law_609 : decode cL_law 609 = .ok (.if_icmp .ne 7, 3) := by decide +kernel
theorem dL_law_612 : decode cL_law 612 = .ok (.iconst 3, 1) := by decide +kernel
theorem dL_law_613 : decode cL_law 613 = .ok (.goto 8, 3) := by decide +kernel
theorem dL_law_616 : decode cL_law 616 = .ok (.iload 14, 2) := by decide +kernel
theorem dL_law_618 : decode cL_law 618 = .ok (.bipush 97, 2) := by decide +kernel
theorem dL_law_620 : decode cL_law 620 = .ok (.isub, 1) := by decide +kernel
theorem dL_law_621 : decode cL_law 621 = .ok (.istore 15, 2) := by decide +kernel
theorem dL_law_623 : decode cL_law 623 = .ok (.iload_n 2, 1) := by decide +kernel
theorem dL_law_624 : decode cL_law 624 = .ok (.aload_n 1, 1) := by decide +kernel
theorem dL_law_625 : decode cL_law 625 = .ok (.iload 6, 2) := by decide +kernel
theorem dL_law_627 : decode cL_law 627 = .ok (.iload 14, 2) := by decide +kernel
theorem dL_law_629 : decode cL_law 629 = .ok (.iload 13, 2) := by decide +kernel
theorem dL_law_631 : decode cL_law 631 = .ok (.invokestatic 117, 3) := by decide +kernel
theorem dL_law_634 : decode cL_law 634 = .ok (.aload 12, 2) := by decide +kernel
theorem dL_law_636 : decode cL_law 636 = .ok (.iload 15, 2) := by decide +kernel
theorem dL_law_638 : decode cL_law 638 = .ok (.iaload, 1) := by decide +kernel
theorem dL_law_639 : decode cL_law 639 = .ok (.if_icmp .ne 20, 3) := by decide +kernel
theorem dL_law_642 : decode cL_law 642 = .ok (.aload_n 1, 1) := by decide +kernel
theorem dL_law_643 : decode cL_law 643 = .ok (.iload 6, 2) := by decide +kernel
theorem dL_law_645 : decode cL_law 645 = .ok (.iload 13, 2) := by decide +kernel
theorem dL_law_647 : decode cL_law 647 = .ok (.invokestatic 120, 3) := by decide +kernel
theorem dL_law_650 : decode cL_law 650 = .ok (.iload 14, 2) := by decide +kernel
theorem dL_law_652 : decode cL_law 652 = .ok (.if_icmp .ne 7, 3) := by decide +kernel
theorem dL_law_655 : decode cL_law 655 = .ok (.iconst 1, 1) := by decide +kernel
theorem dL_law_656 : decode cL_law 656 = .ok (.goto 4, 3) := by decide +kernel
theorem dL_law_659 : decode cL_law 659 = .ok (.iconst 0, 1) := by decide +kernel
theorem dL_law_660 : decode cL_law 660 = .ok (.iand, 1) := by decide +kernel
theorem dL_law_661 : decode cL_law 661 = .ok (.istore_n 2, 1) := by decide +kernel
theorem dL_law_662 : decode cL_law 662 = .ok (.aload 12, 2) := by decide +kernel
theorem dL_law_664 : decode cL_law 664 = .ok (.iload 15, 2) := by decide +kernel
theorem dL_law_666 : decode cL_law 666 = .ok (.dup2, 1) := by decide +kernel
theorem dL_law_667 : decode cL_law 667 = .ok (.iaload, 1) := by decide +kernel
theorem dL_law_668 : decode cL_law 668 = .ok (.iconst 1, 1) := by decide +kernel
theorem dL_law_669 : decode cL_law 669 = .ok (.iadd, 1) := by decide +kernel
theorem dL_law_670 : decode cL_law 670 = .ok (.iastore, 1) := by decide +kernel
theorem dL_law_671 : decode cL_law 671 = .ok (.iload_n 2, 1) := by decide +kernel
theorem dL_law_672 : decode cL_law 672 = .ok (.aload_n 1, 1) := by decide +kernel
theorem dL_law_673 : decode cL_law 673 = .ok (.iload 6, 2) := by decide +kernel
theorem dL_law_675 : decode cL_law 675 = .ok (.iload 13, 2) := by decide +kernel
theorem dL_law_677 : decode cL_law 677 = .ok (.bipush 100, 2) := by decide +kernel
theorem dL_law_679 : decode cL_law 679 = .ok (.invokestatic 101, 3) := by decide +kernel
theorem dL_law_682 : decode cL_law 682 = .ok (.aload 7, 2) := by decide +kernel
theorem dL_law_684 : decode cL_law 684 = .ok (.iload 13, 2) := by decide +kernel
theorem dL_law_686 : decode cL_law 686 = .ok (.iaload, 1) := by decide +kernel
theorem dL_law_687 : decode cL_law 687 = .ok (.if_icmp .ne 46, 3) := by decide +kernel
theorem dL_law_690 : decode cL_law 690 = .ok (.aload_n 1, 1) := by decide +kernel
theorem dL_law_691 : decode cL_law 691 = .ok (.iload 6, 2) := by decide +kernel
theorem dL_law_693 : decode cL_law 693 = .ok (.iload 13, 2) := by decide +kernel
theorem dL_law_695 : decode cL_law 695 = .ok (.bipush 112, 2) := by decide +kernel
theorem dL_law_697 : decode cL_law 697 = .ok (.invokestatic 101, 3) := by decide +kernel
theorem dL_law_700 : decode cL_law 700 = .ok (.aload 8, 2) := by decide +kernel
theorem dL_law_702 : decode cL_law 702 = .ok (.iload 13, 2) := by decide +kernel
theorem dL_law_704 : decode cL_law 704 = .ok (.iaload, 1) := by decide +kernel
theorem dL_law_705 : decode cL_law 705 = .ok (.if_icmp .ne 28, 3) := by decide +kernel
theorem dL_law_708 : decode cL_law 708 = .ok (.aload_n 1, 1) := by decide +kernel
theorem dL_law_709 : decode cL_law 709 = .ok (.iload 6, 2) := by decide +kernel
theorem dL_law_711 : decode cL_law 711 = .ok (.aload 7, 2) := by decide +kernel
theorem dL_law_713 : decode cL_law 713 = .ok (.iload 13, 2) := by decide +kernel
theorem dL_law_715 : decode cL_law 715 = .ok (.iaload, 1) := by decide +kernel
theorem dL_law_716 : decode cL_law 716 = .ok (.aload 8, 2) := by decide +kernel
theorem dL_law_718 : decode cL_law 718 = .ok (.iload 13, 2) := by decide +kernel
theorem dL_law_720 : decode cL_law 720 = .ok (.iaload, 1) := by decide +kernel
theorem dL_law_721 : decode cL_law 721 = .ok (.invokestatic 122, 3) := by decide +kernel
theorem dL_law_724 : decode cL_law 724 = .ok (.iload 13, 2) := by decide +kernel
theorem dL_law_726 : decode cL_law 726 = .ok (.if_icmp .ne 7, 3) := by decide +kernel
theorem dL_law_729 : decode cL_law 729 = .ok (.iconst 1, 1) := by decide +kernel
theorem dL_law_730 : decode cL_law 730 = .ok (.goto 4, 3) := by decide +kernel
theorem dL_law_733 : decode cL_law 733 = .ok (.iconst 0, 1) := by decide +kernel
theorem dL_law_734 : decode cL_law 734 = .ok (.iand, 1) := by decide +kernel
theorem dL_law_735 : decode cL_law 735 = .ok (.istore_n 2, 1) := by decide +kernel
theorem dL_law_736 : decode cL_law 736 = .ok (.iinc 13 1, 3) := by decide +kernel
theorem dL_law_739 : decode cL_law 739 = .ok (.goto (-193), 3) := by decide +kernel
theorem dL_law_742 : decode cL_law 742 = .ok (.iload_n 2, 1) := by decide +kernel
theorem dL_law_743 : decode cL_law 743 = .ok (.aload_n 1, 1) := by decide +kernel
theorem dL_law_744 : decode cL_law 744 = .ok (.iload 6, 2) := by decide +kernel
theorem dL_law_746 : decode cL_law 746 = .ok (.invokestatic 99, 3) := by decide +kernel
theorem dL_law_749 : decode cL_law 749 = .ok (.iload 10, 2) := by decide +kernel
theorem dL_law_751 : decode cL_law 751 = .ok (.if_icmp .ne 51, 3) := by decide +kernel
theorem dL_law_754 : decode cL_law 754 = .ok (.aload_n 1, 1) := by decide +kernel
theorem dL_law_755 : decode cL_law 755 = .ok (.iload 6, 2) := by decide +kernel
theorem dL_law_757 : decode cL_law 757 = .ok (.iload 5, 2) := by decide +kernel
theorem dL_law_759 : decode cL_law 759 = .ok (.invokestatic 120, 3) := by decide +kernel
theorem dL_law_762 : decode cL_law 762 = .ok (.ldc 20, 2) := by decide +kernel
theorem dL_law_764 : decode cL_law 764 = .ok (.if_icmp .ne 38, 3) := by decide +kernel
theorem dL_law_767 : decode cL_law 767 = .ok (.aload_n 1, 1) := by decide +kernel
theorem dL_law_768 : decode cL_law 768 = .ok (.iload 6, 2) := by decide +kernel
theorem dL_law_770 : decode cL_law 770 = .ok (.bipush 36, 2) := by decide +kernel
theorem dL_law_772 : decode cL_law 772 = .ok (.iload 5, 2) := by decide +kernel
theorem dL_law_774 : decode cL_law 774 = .ok (.invokestatic 117, 3) := by decide +kernel
theorem dL_law_777 : decode cL_law 777 = .ok (.iload_n 3, 1) := by decide +kernel
theorem dL_law_778 : decode cL_law 778 = .ok (.if_icmp .ne 24, 3) := by decide +kernel
theorem dL_law_781 : decode cL_law 781 = .ok (.aload_n 1, 1) := by decide +kernel
theorem dL_law_782 : decode cL_law 782 = .ok (.iload 6, 2) := by decide +kernel
theorem dL_law_784 : decode cL_law 784 = .ok (.invokevirtual 125, 3) := by decide +kernel
theorem dL_law_787 : decode cL_law 787 = .ok (.iload 10, 2) := by decide +kernel
theorem dL_law_789 : decode cL_law 789 = .ok (.i2f, 1) := by decide +kernel
theorem dL_law_790 : decode cL_law 790 = .ok (.iload 5, 2) := by decide +kernel
theorem dL_law_792 : decode cL_law 792 = .ok (.i2f, 1) := by decide +kernel
theorem dL_law_793 : decode cL_law 793 = .ok (.fdiv, 1) := by decide +kernel
theorem dL_law_794 : decode cL_law 794 = .ok (.fcmp .l, 1) := by decide +kernel
theorem dL_law_795 : decode cL_law 795 = .ok (.ifCond .ne 7, 3) := by decide +kernel
theorem dL_law_798 : decode cL_law 798 = .ok (.iconst 1, 1) := by decide +kernel
theorem dL_law_799 : decode cL_law 799 = .ok (.goto 4, 3) := by decide +kernel
theorem dL_law_802 : decode cL_law 802 = .ok (.iconst 0, 1) := by decide +kernel
theorem dL_law_803 : decode cL_law 803 = .ok (.iand, 1) := by decide +kernel
theorem dL_law_804 : decode cL_law 804 = .ok (.istore_n 2, 1) := by decide +kernel
theorem dL_law_805 : decode cL_law 805 = .ok (.aload_n 1, 1) := by decide +kernel
theorem dL_law_806 : decode cL_law 806 = .ok (.aload_n 0, 1) := by decide +kernel
theorem dL_law_807 : decode cL_law 807 = .ok (.bipush 90, 2) := by decide +kernel
theorem dL_law_809 : decode cL_law 809 = .ok (.iconst 1, 1) := by decide +kernel
theorem dL_law_810 : decode cL_law 810 = .ok (.aload_n 0, 1) := by decide +kernel
theorem dL_law_811 : decode cL_law 811 = .ok (.bipush 6, 2) := by decide +kernel
theorem dL_law_813 : decode cL_law 813 = .ok (.iconst 3, 1) := by decide +kernel
theorem dL_law_814 : decode cL_law 814 = .ok (.invokestatic 85, 3) := by decide +kernel
theorem dL_law_817 : decode cL_law 817 = .ok (.iadd, 1) := by decide +kernel
theorem dL_law_818 : decode cL_law 818 = .ok (.invokestatic 106, 3) := by decide +kernel
theorem dL_law_821 : decode cL_law 821 = .ok (.astore 13, 2) := by decide +kernel
theorem dL_law_823 : decode cL_law 823 = .ok (.iconst 0, 1) := by decide +kernel
theorem dL_law_824 : decode cL_law 824 = .ok (.istore 14, 2) := by decide +kernel
theorem dL_law_826 : decode cL_law 826 = .ok (.iload 14, 2) := by decide +kernel
theorem dL_law_828 : decode cL_law 828 = .ok (.aload 13, 2) := by decide +kernel
theorem dL_law_830 : decode cL_law 830 = .ok (.arraylength, 1) := by decide +kernel
theorem dL_law_831 : decode cL_law 831 = .ok (.if_icmp .gt 177, 3) := by decide +kernel
theorem dL_law_834 : decode cL_law 834 = .ok (.iconst 0, 1) := by decide +kernel
theorem dL_law_835 : decode cL_law 835 = .ok (.istore 15, 2) := by decide +kernel
theorem dL_law_837 : decode cL_law 837 = .ok (.iconst 0, 1) := by decide +kernel
theorem dL_law_838 : decode cL_law 838 = .ok (.istore 16, 2) := by decide +kernel
theorem dL_law_840 : decode cL_law 840 = .ok (.iconst 0, 1) := by decide +kernel
theorem dL_law_841 : decode cL_law 841 = .ok (.istore 17, 2) := by decide +kernel
theorem dL_law_843 : decode cL_law 843 = .ok (.iload 17, 2) := by decide +kernel
theorem dL_law_845 : decode cL_law 845 = .ok (.iload 5, 2) := by decide +kernel
theorem dL_law_847 : decode cL_law 847 = .ok (.if_icmp .ge 119, 3) := by decide +kernel
theorem dL_law_850 : decode cL_law 850 = .ok (.aload 4, 2) := by decide +kernel
theorem dL_law_852 : decode cL_law 852 = .ok (.aload 7, 2) := by decide +kernel
theorem dL_law_854 : decode cL_law 854 = .ok (.iload 17, 2) := by decide +kernel
theorem dL_law_856 : decode cL_law 856 = .ok (.iaload, 1) := by decide +kernel
theorem dL_law_857 : decode cL_law 857 = .ok (.aaload, 1) := by decide +kernel
theorem dL_law_858 : decode cL_law 858 = .ok (.astore 18, 2) := by decide +kernel
theorem dL_law_860 : decode cL_law 860 = .ok (.iconst 0, 1) := by decide +kernel
theorem dL_law_861 : decode cL_law 861 = .ok (.istore 19, 2) := by decide +kernel
theorem dL_law_863 : decode cL_law 863 = .ok (.iconst 0, 1) := by decide +kernel
theorem dL_law_864 : decode cL_law 864 = .ok (.istore 20, 2) := by decide +kernel
theorem dL_law_866 : decode cL_law 866 = .ok (.iload 20, 2) := by decide +kernel
theorem dL_law_868 : decode cL_law 868 = .ok (.iload 14, 2) := by decide +kernel
theorem dL_law_870 : decode cL_law 870 = .ok (.if_icmp .ge 60, 3) := by decide +kernel
theorem dL_law_873 : decode cL_law 873 = .ok (.iload 19, 2) := by decide +kernel
theorem dL_law_875 : decode cL_law 875 = .ok (.ifCond .ne 55, 3) := by decide +kernel
theorem dL_law_878 : decode cL_law 878 = .ok (.aload 13, 2) := by decide +kernel
theorem dL_law_880 : decode cL_law 880 = .ok (.aload 13, 2) := by decide +kernel
theorem dL_law_882 : decode cL_law 882 = .ok (.arraylength, 1) := by decide +kernel
theorem dL_law_883 : decode cL_law 883 = .ok (.iload 14, 2) := by decide +kernel
theorem dL_law_885 : decode cL_law 885 = .ok (.isub, 1) := by decide +kernel
theorem dL_law_886 : decode cL_law 886 = .ok (.iload 20, 2) := by decide +kernel
theorem dL_law_888 : decode cL_law 888 = .ok (.iadd, 1) := by decide +kernel
theorem dL_law_889 : decode cL_law 889 = .ok (.caload, 1) := by decide +kernel
theorem dL_law_890 : decode cL_law 890 = .ok (.istore 21, 2) := by decide +kernel
theorem dL_law_892 : decode cL_law 892 = .ok (.aload 8, 2) := by decide +kernel
theorem dL_law_894 : decode cL_law 894 = .ok (.iload 17, 2) := by decide +kernel
theorem dL_law_896 : decode cL_law 896 = .ok (.iaload, 1) := by decide +kernel
theorem dL_law_897 : decode cL_law 897 = .ok (.iload 20, 2) := by decide +kernel
theorem dL_law_899 : decode cL_law 899 = .ok (.iadd, 1) := by decide +kernel
theorem dL_law_900 : decode cL_law 900 = .ok (.istore 22, 2) := by decide +kernel
theorem dL_law_902 : decode cL_law 902 = .ok (.iload 22, 2) := by decide +kernel
theorem dL_law_904 : decode cL_law 904 = .ok (.aload 18, 2) := by decide +kernel
theorem dL_law_906 : decode cL_law 906 = .ok (.arraylength, 1) := by decide +kernel
theorem dL_law_907 : decode cL_law 907 = .ok (.if_icmp .ne 7, 3) := by decide +kernel
theorem dL_law_910 : decode cL_law 910 = .ok (.iconst (-1), 1) := by decide +kernel
theorem dL_law_911 : decode cL_law 911 = .ok (.goto 11, 3) := by decide +kernel
theorem dL_law_914 : decode cL_law 914 = .ok (.aload 18, 2) := by decide +kernel
theorem dL_law_916 : decode cL_law 916 = .ok (.iload 22, 2) := by decide +kernel
theorem dL_law_918 : decode cL_law 918 = .ok (.caload, 1) := by decide +kernel
theorem dL_law_919 : decode cL_law 919 = .ok (.iload 21, 2) := by decide +kernel
theorem dL_law_921 : decode cL_law 921 = .ok (.isub, 1) := by decide +kernel
theorem dL_law_922 : decode cL_law 922 = .ok (.istore 19, 2) := by decide +kernel
theorem dL_law_924 : decode cL_law 924 = .ok (.iinc 20 1, 3) := by decide +kernel
theorem dL_law_927 : decode cL_law 927 = .ok (.goto (-61), 3) := by decide +kernel
theorem dL_law_930 : decode cL_law 930 = .ok (.iload 15, 2) := by decide +kernel
theorem dL_law_932 : decode cL_law 932 = .ok (.iload 19, 2) := by decide +kernel
theorem dL_law_934 : decode cL_law 934 = .ok (.ifCond .ge 7, 3) := by decide +kernel
theorem dL_law_937 : decode cL_law 937 = .ok (.iconst 1, 1) := by decide +kernel
theorem dL_law_938 : decode cL_law 938 = .ok (.goto 4, 3) := by decide +kernel
theorem dL_law_941 : decode cL_law 941 = .ok (.iconst 0, 1) := by decide +kernel
theorem dL_law_942 : decode cL_law 942 = .ok (.iadd, 1) := by decide +kernel
theorem dL_law_943 : decode cL_law 943 = .ok (.istore 15, 2) := by decide +kernel
theorem dL_law_945 : decode cL_law 945 = .ok (.iload 16, 2) := by decide +kernel
theorem dL_law_947 : decode cL_law 947 = .ok (.iload 19, 2) := by decide +kernel
theorem dL_law_949 : decode cL_law 949 = .ok (.ifCond .gt 7, 3) := by decide +kernel
theorem dL_law_952 : decode cL_law 952 = .ok (.iconst 1, 1) := by decide +kernel
theorem dL_law_953 : decode cL_law 953 = .ok (.goto 4, 3) := by decide +kernel
theorem dL_law_956 : decode cL_law 956 = .ok (.iconst 0, 1) := by decide +kernel
theorem dL_law_957 : decode cL_law 957 = .ok (.iadd, 1) := by decide +kernel
theorem dL_law_958 : decode cL_law 958 = .ok (.istore 16, 2) := by decide +kernel
theorem dL_law_960 : decode cL_law 960 = .ok (.iinc 17 1, 3) := by decide +kernel
theorem dL_law_963 : decode cL_law 963 = .ok (.goto (-120), 3) := by decide +kernel
theorem dL_law_966 : decode cL_law 966 = .ok (.iload_n 2, 1) := by decide +kernel
theorem dL_law_967 : decode cL_law 967 = .ok (.aload_n 1, 1) := by decide +kernel
theorem dL_law_968 : decode cL_law 968 = .ok (.iload 6, 2) := by decide +kernel
theorem dL_law_970 : decode cL_law 970 = .ok (.iload 14, 2) := by decide +kernel
theorem dL_law_972 : decode cL_law 972 = .ok (.iconst 0, 1) := by decide +kernel
theorem dL_law_973 : decode cL_law 973 = .ok (.invokestatic 129, 3) := by decide +kernel
theorem dL_law_976 : decode cL_law 976 = .ok (.iload 15, 2) := by decide +kernel
theorem dL_law_978 : decode cL_law 978 = .ok (.if_icmp .ne 21, 3) := by decide +kernel
theorem dL_law_981 : decode cL_law 981 = .ok (.aload_n 1, 1) := by decide +kernel
theorem dL_law_982 : decode cL_law 982 = .ok (.iload 6, 2) := by decide +kernel
theorem dL_law_984 : decode cL_law 984 = .ok (.iload 14, 2) := by decide +kernel
theorem dL_law_986 : decode cL_law 986 = .ok (.iconst 1, 1) := by decide +kernel
theorem dL_law_987 : decode cL_law 987 = .ok (.invokestatic 129, 3) := by decide +kernel
theorem dL_law_990 : decode cL_law 990 = .ok (.iload 16, 2) := by decide +kernel
theorem dL_law_992 : decode cL_law 992 = .ok (.if_icmp .ne 7, 3) := by decide +kernel
theorem dL_law_995 : decode cL_law 995 = .ok (.iconst 1, 1) := by decide +kernel
theorem dL_law_996 : decode cL_law 996 = .ok (.goto 4, 3) := by decide +kernel
theorem dL_law_999 : decode cL_law 999 = .ok (.iconst 0, 1) := by decide +kernel
theorem dL_law_1000 : decode cL_law 1000 = .ok (.iand, 1) := by decide +kernel
theorem dL_law_1001 : decode cL_law 1001 = .ok (.istore_n 2, 1) := by decide +kernel
theorem dL_law_1002 : decode cL_law 1002 = .ok (.iinc 14 1, 3) := by decide +kernel
theorem dL_law_1005 : decode cL_law 1005 = .ok (.goto (-179), 3) := by decide +kernel
theorem dL_law_1008 : decode cL_law 1008 = .ok (.iconst 0, 1) := by decide +kernel
theorem dL_law_1009 : decode cL_law 1009 = .ok (.istore 14, 2) := by decide +kernel
theorem dL_law_1011 : decode cL_law 1011 = .ok (.iconst 0, 1) := by decide +kernel
theorem dL_law_1012 : decode cL_law 1012 = .ok (.istore 15, 2) := by decide +kernel
theorem dL_law_1014 : decode cL_law 1014 = .ok (.iload 15, 2) := by decide +kernel
theorem dL_law_1016 : decode cL_law 1016 = .ok (.iload_n 3, 1) := by decide +kernel
theorem dL_law_1017 : decode cL_law 1017 = .ok (.if_icmp .ge 99, 3) := by decide +kernel
theorem dL_law_1020 : decode cL_law 1020 = .ok (.iconst 0, 1) := by decide +kernel
theorem dL_law_1021 : decode cL_law 1021 = .ok (.istore 16, 2) := by decide +kernel
theorem dL_law_1023 : decode cL_law 1023 = .ok (.iload 16, 2) := by decide +kernel
theorem dL_law_1025 : decode cL_law 1025 = .ok (.aload 4, 2) := by decide +kernel
theorem dL_law_1027 : decode cL_law 1027 = .ok (.iload 15, 2) := by decide +kernel
theorem dL_law_1029 : decode cL_law 1029 = .ok (.aaload, 1) := by decide +kernel
theorem dL_law_1030 : decode cL_law 1030 = .ok (.arraylength, 1) := by decide +kernel
theorem dL_law_1031 : decode cL_law 1031 = .ok (.if_icmp .ge 79, 3) := by decide +kernel
theorem dL_law_1034 : decode cL_law 1034 = .ok (.aload 4, 2) := by decide +kernel
theorem dL_law_1036 : decode cL_law 1036 = .ok (.iload 15, 2) := by decide +kernel
theorem dL_law_1038 : decode cL_law 1038 = .ok (.aaload, 1) := by decide +kernel
theorem dL_law_1039 : decode cL_law 1039 = .ok (.iload 16, 2) := by decide +kernel
theorem dL_law_1041 : decode cL_law 1041 = .ok (.aload 13, 2) := by decide +kernel
theorem dL_law_1043 : decode cL_law 1043 = .ok (.invokestatic 132, 3) := by decide +kernel
theorem dL_law_1046 : decode cL_law 1046 = .ok (.istore 17, 2) := by decide +kernel
theorem dL_law_1048 : decode cL_law 1048 = .ok (.iload_n 2, 1) := by decide +kernel
theorem dL_law_1049 : decode cL_law 1049 = .ok (.iload 17, 2) := by decide +kernel
theorem dL_law_1051 : decode cL_law 1051 = .ok (.ifCond .eq 31, 3) := by decide +kernel
theorem dL_law_1054 : decode cL_law 1054 = .ok (.aload_n 1, 1) := by decide +kernel
theorem dL_law_1055 : decode cL_law 1055 = .ok (.iload 6, 2) := by decide +kernel
theorem dL_law_1057 : decode cL_law 1057 = .ok (.iload 14, 2) := by decide +kernel
theorem dL_law_1059 : decode cL_law 1059 = .ok (.iconst 0, 1) := by decide +kernel
theorem dL_law_1060 : decode cL_law 1060 = .ok (.invokestatic 136, 3) := by decide +kernel
theorem dL_law_1063 : decode cL_law 1063 = .ok (.iload 15, 2) := by decide +kernel
theorem dL_law_1065 : decode cL_law 1065 = .ok (.if_icmp .ne 21, 3) := by decide +kernel
theorem dL_law_1068 : decode cL_law 1068 = .ok (.aload_n 1, 1) := by decide +kernel
theorem dL_law_1069 : decode cL_law 1069 = .ok (.iload 6, 2) := by decide +kernel
theorem dL_law_1071 : decode cL_law 1071 = .ok (.iload 14, 2) := by decide +kernel
theorem dL_law_1073 : decode cL_law 1073 = .ok (.iconst 1, 1) := by decide +kernel
theorem dL_law_1074 : decode cL_law 1074 = .ok (.invokestatic 136, 3) := by decide +kernel
theorem dL_law_1077 : decode cL_law 1077 = .ok (.iload 16, 2) := by decide +kernel
theorem dL_law_1079 : decode cL_law 1079 = .ok (.if_icmp .ne 7, 3) := by decide +kernel
theorem dL_law_1082 : decode cL_law 1082 = .ok (.iconst 1, 1) := by decide +kernel
theorem dL_law_1083 : decode cL_law 1083 = .ok (.goto 4, 3) := by decide +kernel
theorem dL_law_1086 : decode cL_law 1086 = .ok (.iconst 0, 1) := by decide +kernel
theorem dL_law_1087 : decode cL_law 1087 = .ok (.iand, 1) := by decide +kernel
theorem dL_law_1088 : decode cL_law 1088 = .ok (.istore_n 2, 1) := by decide +kernel
theorem dL_law_1089 : decode cL_law 1089 = .ok (.iload 14, 2) := by decide +kernel
theorem dL_law_1091 : decode cL_law 1091 = .ok (.iload 17, 2) := by decide +kernel
theorem dL_law_1093 : decode cL_law 1093 = .ok (.ifCond .eq 7, 3) := by decide +kernel
theorem dL_law_1096 : decode cL_law 1096 = .ok (.iconst 1, 1) := by decide +kernel
theorem dL_law_1097 : decode cL_law 1097 = .ok (.goto 4, 3) := by decide +kernel
theorem dL_law_1100 : decode cL_law 1100 = .ok (.iconst 0, 1) := by decide +kernel
theorem dL_law_1101 : decode cL_law 1101 = .ok (.iadd, 1) := by decide +kernel
theorem dL_law_1102 : decode cL_law 1102 = .ok (.istore 14, 2) := by decide +kernel
theorem dL_law_1104 : decode cL_law 1104 = .ok (.iinc 16 1, 3) := by decide +kernel
theorem dL_law_1107 : decode cL_law 1107 = .ok (.goto (-84), 3) := by decide +kernel
theorem dL_law_1110 : decode cL_law 1110 = .ok (.iinc 15 1, 3) := by decide +kernel
theorem dL_law_1113 : decode cL_law 1113 = .ok (.goto (-99), 3) := by decide +kernel
theorem dL_law_1116 : decode cL_law 1116 = .ok (.iload_n 2, 1) := by decide +kernel
theorem dL_law_1117 : decode cL_law 1117 = .ok (.ifCond .eq 82, 3) := by decide +kernel
theorem dL_law_1120 : decode cL_law 1120 = .ok (.aload_n 1, 1) := by decide +kernel
theorem dL_law_1121 : decode cL_law 1121 = .ok (.iload 6, 2) := by decide +kernel
theorem dL_law_1123 : decode cL_law 1123 = .ok (.invokestatic 138, 3) := by decide +kernel
theorem dL_law_1126 : decode cL_law 1126 = .ok (.iload 14, 2) := by decide +kernel
theorem dL_law_1128 : decode cL_law 1128 = .ok (.if_icmp .ne 71, 3) := by decide +kernel
theorem dL_law_1131 : decode cL_law 1131 = .ok (.aload_n 1, 1) := by decide +kernel
theorem dL_law_1132 : decode cL_law 1132 = .ok (.iload 6, 2) := by decide +kernel
theorem dL_law_1134 : decode cL_law 1134 = .ok (.iload 14, 2) := by decide +kernel
theorem dL_law_1136 : decode cL_law 1136 = .ok (.iconst 1, 1) := by decide +kernel
theorem dL_law_1137 : decode cL_law 1137 = .ok (.invokestatic 136, 3) := by decide +kernel
theorem dL_law_1140 : decode cL_law 1140 = .ok (.ldc 33, 2) := by decide +kernel
theorem dL_law_1142 : decode cL_law 1142 = .ok (.if_icmp .ne 57, 3) := by decide +kernel
theorem dL_law_1145 : decode cL_law 1145 = .ok (.aload_n 1, 1) := by decide +kernel
theorem dL_law_1146 : decode cL_law 1146 = .ok (.iload 6, 2) := by decide +kernel
theorem dL_law_1148 : decode cL_law 1148 = .ok (.aload 13, 2) := by decide +kernel
theorem dL_law_1150 : decode cL_law 1150 = .ok (.arraylength, 1) := by decide +kernel
theorem dL_law_1151 : decode cL_law 1151 = .ok (.iconst 1, 1) := by decide +kernel
theorem dL_law_1152 : decode cL_law 1152 = .ok (.iadd, 1) := by decide +kernel
theorem dL_law_1153 : decode cL_law 1153 = .ok (.iconst 1, 1) := by decide +kernel
theorem dL_law_1154 : decode cL_law 1154 = .ok (.invokestatic 129, 3) := by decide +kernel
theorem dL_law_1157 : decode cL_law 1157 = .ok (.ldc 33, 2) := by decide +kernel
theorem dL_law_1159 : decode cL_law 1159 = .ok (.if_icmp .ne 40, 3) := by decide +kernel
theorem dL_law_1162 : decode cL_law 1162 = .ok (.aload_n 1, 1) := by decide +kernel
theorem dL_law_1163 : decode cL_law 1163 = .ok (.iload 6, 2) := by decide +kernel
theorem dL_law_1165 : decode cL_law 1165 = .ok (.aload 13, 2) := by decide +kernel
theorem dL_law_1167 : decode cL_law 1167 = .ok (.arraylength, 1) := by decide +kernel
theorem dL_law_1168 : decode cL_law 1168 = .ok (.iconst 1, 1) := by decide +kernel
theorem dL_law_1169 : decode cL_law 1169 = .ok (.invokestatic 129, 3) := by decide +kernel
theorem dL_law_1172 : decode cL_law 1172 = .ok (.aload_n 1, 1) := by decide +kernel
theorem dL_law_1173 : decode cL_law 1173 = .ok (.iload 6, 2) := by decide +kernel
theorem dL_law_1175 : decode cL_law 1175 = .ok (.aload 13, 2) := by decide +kernel
theorem dL_law_1177 : decode cL_law 1177 = .ok (.arraylength, 1) := by decide +kernel
theorem dL_law_1178 : decode cL_law 1178 = .ok (.iconst 0, 1) := by decide +kernel
theorem dL_law_1179 : decode cL_law 1179 = .ok (.invokestatic 129, 3) := by decide +kernel
theorem dL_law_1182 : decode cL_law 1182 = .ok (.isub, 1) := by decide +kernel
theorem dL_law_1183 : decode cL_law 1183 = .ok (.iload 14, 2) := by decide +kernel
theorem dL_law_1185 : decode cL_law 1185 = .ok (.if_icmp .ne 14, 3) := by decide +kernel
theorem dL_law_1188 : decode cL_law 1188 = .ok (.aload_n 1, 1) := by decide +kernel
theorem dL_law_1189 : decode cL_law 1189 = .ok (.invokevirtual 140, 3) := by decide +kernel
theorem dL_law_1192 : decode cL_law 1192 = .ok (.ifCond .eq 7, 3) := by decide +kernel
theorem dL_law_1195 : decode cL_law 1195 = .ok (.iconst 1, 1) := by decide +kernel
theorem dL_law_1196 : decode cL_law 1196 = .ok (.goto 4, 3) := by decide +kernel
theorem dL_law_1199 : decode cL_law 1199 = .ok (.iconst 0, 1) := by decide +kernel
theorem dL_law_1200 : decode cL_law 1200 = .ok (.ireturn, 1) := by decide +kernel
abbrev vwCl : List vw_C := [(RX0, TX0, 2), (RX1, TX1, 5), (RX2, TX2, 7), (RX3, TX3, 3), (RX4, TX4, 6), (RX5, TX5, 6), (RX6, TX6, 2), (RX7, TX7, 5), (RX8, TX8, 4), (RX9, TX9, 6), (RX10, TX10, 8)]
end
