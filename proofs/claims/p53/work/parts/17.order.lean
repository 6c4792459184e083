/-! The order of suffixes, over lists. -/
abbrev mt_D : Type := List (List Int)
def cmpL : List Int → List Int → Int
  | [], [] => 0
  | [], b :: _ => -b
  | a :: _, [] => a
  | a :: l, b :: m => if a = b then cmpL l m else a - b
def posL (l : List Int) : Prop := ∀ x ∈ l, 0 < x
theorem posL.tl {a : Int} {l : List Int} (h : posL (a :: l)) : posL l := fun x hx => h x (List.mem_cons_of_mem _ hx)
theorem posL.hd {a : Int} {l : List Int} (h : posL (a :: l)) : 0 < a := h a List.mem_cons_self
theorem posL.drop {l : List Int} (h : posL l) (n : Nat) : posL (l.drop n) := fun x hx => h x (List.mem_of_mem_drop hx)
theorem cmpL_self : ∀ l : List Int, cmpL l l = 0
  | [] => rfl
  | a :: l => by simp only [cmpL, if_true]; exact cmpL_self l
theorem cmpL_neg : ∀ l m : List Int, cmpL m l = - cmpL l m
  | [], [] => rfl
  | [], b :: m => by simp [cmpL]
  | a :: l, [] => by simp [cmpL]
  | a :: l, b :: m => by
    simp only [cmpL]
    by_cases h : a = b
    · rw [if_pos h, if_pos h.symm]
      exact cmpL_neg l m
    · rw [if_neg h, if_neg (Ne.symm h)]
      omega
theorem cmpL_eq : ∀ {l m : List Int}, posL l → posL m → cmpL l m = 0 → l = m
  | [], [], _, _, _ => rfl
  | [], b :: m, _, h, e => by have := h.hd; simp only [cmpL] at e; omega
  | a :: l, [], h, _, e => by have := h.hd; simp only [cmpL] at e; omega
  | a :: l, b :: m, h, g, e => by
    simp only [cmpL] at e
    by_cases c : a = b
    · rw [if_pos c] at e
      rw [c, cmpL_eq h.tl g.tl e]
    · rw [if_neg c] at e
      omega
theorem cmpL_tr : ∀ {a b c : List Int}, posL a → posL b → posL c → cmpL a b < 0 → cmpL b c < 0 → cmpL a c < 0
  | _, [], [], _, _, _, _, h => by simp [cmpL] at h
  | [], [], _ :: _, _, _, _, h, _ => by simp [cmpL] at h
  | x :: a, [], z :: c, h, _, _, e, _ => by have := h.hd; simp only [cmpL] at e; omega
  | _, y :: b, [], _, h, _, _, e => by have := h.hd; simp only [cmpL] at e; omega
  | [], y :: b, z :: c, _, _, h, _, _ => by have := h.hd; simp only [cmpL]; omega
  | x :: a, y :: b, z :: c, h1, h2, h3, e, f => by
    have p1 := h1.hd
    simp only [cmpL] at e f ⊢
    by_cases c1 : x = y
    · by_cases c2 : y = z
      · rw [if_pos c1] at e
        rw [if_pos c2] at f
        rw [if_pos (c1.trans c2)]
        exact cmpL_tr h1.tl h2.tl h3.tl e f
      · rw [if_neg c2] at f
        rw [if_neg (by omega)]
        omega
    · by_cases c2 : y = z
      · rw [if_neg c1] at e
        rw [if_neg (by omega)]
        omega
      · rw [if_neg c1] at e
        rw [if_neg c2] at f
        rw [if_neg (by omega)]
        omega
def lenD (D : mt_D) (k : Nat) : Nat := (D.getD k []).length
def suf (D : mt_D) (x : Nat × Nat) : List Int := (D.getD x.1 []).drop x.2
def lt_ (D : mt_D) (x y : Nat × Nat) : Prop := cmpL (suf D x) (suf D y) < 0 ∨ (cmpL (suf D x) (suf D y) = 0 ∧ x.1 < y.1)
def posD (D : mt_D) : Prop := ∀ k : Nat, posL (D.getD k [])
theorem posD.suf {D : mt_D} (h : posD D) (x : Nat × Nat) : posL (suf D x) := (h x.1).drop _
theorem lt_tr {D : mt_D} (h : posD D) {x y z : Nat × Nat} (a : lt_ D x y) (b : lt_ D y z) : lt_ D x z := by
  rcases a with a | ⟨a, a'⟩
  · rcases b with b | ⟨b, b'⟩
    · exact Or.inl (cmpL_tr (h.suf x) (h.suf y) (h.suf z) a b)
    · have e := cmpL_eq (h.suf y) (h.suf z) b
      unfold lt_
      rw [← e]
      exact Or.inl a
  · have e := cmpL_eq (h.suf x) (h.suf y) a
    rcases b with b | ⟨b, b'⟩
    · unfold lt_
      rw [e]
      exact Or.inl b
    · unfold lt_
      rw [e]
      exact Or.inr ⟨b, by omega⟩
theorem lt_ir {D : mt_D} {x : Nat × Nat} : ¬ lt_ D x x := by
  unfold lt_
  rw [cmpL_self]
  omega
theorem lt_tot {D : mt_D} (h : posD D) {x y : Nat × Nat} (hx : x.2 < lenD D x.1) (hy : y.2 < lenD D y.1) (ne : x ≠ y) (n : ¬ lt_ D x y) : lt_ D y x := by
  unfold lt_ at n ⊢
  have e := cmpL_neg (suf D x) (suf D y)
  by_cases c : cmpL (suf D x) (suf D y) = 0
  · refine Or.inr ⟨by omega, ?_⟩
    by_cases d : x.1 = y.1
    · exfalso
      have e2 := cmpL_eq (h.suf x) (h.suf y) c
      have e3 : (suf D x).length = (suf D y).length := by rw [e2]
      unfold suf at e3
      rw [List.length_drop, List.length_drop, ← d] at e3
      unfold lenD at hx hy
      rw [← d] at hy
      exact ne (Prod.ext d (by omega))
    · omega
  · left
    omega
noncomputable def ltB (D : mt_D) (x : Nat × Nat) (y : Nat × Nat) : Bool := @decide (lt_ D y x) (Classical.propDecidable _)
theorem ltB_t {D : mt_D} {x y : Nat × Nat} : ltB D x y = true ↔ lt_ D y x := by unfold ltB; exact @decide_eq_true_iff _ (Classical.propDecidable _)
/-- x is put where all ahead are lower, and the next isn't -/
noncomputable def ins (D : mt_D) (L : List (Nat × Nat)) (x : Nat × Nat) : List (Nat × Nat) := L.takeWhile (ltB D x) ++ x :: L.dropWhile (ltB D x)
theorem tw_at {α : Type} (p : α → Bool) : ∀ (L : List α) (k : Nat), k ≤ L.length → (∀ i y, i < k → L[i]? = some y → p y = true) → (∀ y, L[k]? = some y → p y = false) → L.takeWhile p = L.take k ∧ L.dropWhile p = L.drop k
  | [], k, hk, _, _ => by simp at hk; subst hk; simp
  | y :: L, 0, _, _, h => by
    have := h y rfl
    simp [List.takeWhile, List.dropWhile, this]
  | y :: L, k + 1, hk, h1, h2 => by
    have e := h1 0 y (by omega) rfl
    have ih := tw_at p L k (by simpa using hk) (fun i z hi hz => h1 (i + 1) z (by omega) (by simpa using hz)) (fun z hz => h2 z (by simpa using hz))
    simp [List.takeWhile, List.dropWhile, e, ih.1, ih.2]
theorem ins_at {D : mt_D} {L : List (Nat × Nat)} {x : Nat × Nat} {k : Nat} (hk : k ≤ L.length) (h1 : ∀ i y, i < k → L[i]? = some y → lt_ D y x) (h2 : ∀ y, L[k]? = some y → ¬ lt_ D y x) : ins D L x = L.take k ++ x :: L.drop k := by
  obtain ⟨e1, e2⟩ := tw_at (ltB D x) L k hk (fun i y hi hy => ltB_t.mpr (h1 i y hi hy)) (fun y hy => by
    have := h2 y hy
    rw [← ltB_t] at this
    simpa using this)
  unfold ins
  rw [e1, e2]
theorem ins_len {D : mt_D} {L : List (Nat × Nat)} {x : Nat × Nat} : (ins D L x).length = L.length + 1 := by
  unfold ins
  have : (L.takeWhile (ltB D x) ++ L.dropWhile (ltB D x)).length = L.length := by rw [List.takeWhile_append_dropWhile]
  rw [List.length_append] at this ⊢
  rw [List.length_cons]
  omega
theorem ins_ct {D : mt_D} {L : List (Nat × Nat)} {x : Nat × Nat} (q : Nat × Nat → Bool) : (ins D L x).countP q = L.countP q + (if q x = true then 1 else 0) := by
  unfold ins
  have : (L.takeWhile (ltB D x) ++ L.dropWhile (ltB D x)).countP q = L.countP q := by rw [List.takeWhile_append_dropWhile]
  rw [List.countP_append] at this ⊢
  rw [List.countP_cons]
  omega
theorem ins_mem {D : mt_D} {L : List (Nat × Nat)} {x y : Nat × Nat} : y ∈ ins D L x ↔ y ∈ L ∨ y = x := by
  unfold ins
  have : y ∈ L ↔ y ∈ L.takeWhile (ltB D x) ++ L.dropWhile (ltB D x) := by rw [List.takeWhile_append_dropWhile]
  rw [this, List.mem_append, List.mem_append, List.mem_cons]
  constructor
  · rintro (h | h | h)
    · exact Or.inl (Or.inl h)
    · exact Or.inr h
    · exact Or.inl (Or.inr h)
  · rintro ((h | h) | h)
    · exact Or.inl h
    · exact Or.inr (Or.inr h)
    · exact Or.inr (Or.inl h)
/-- the places of slot s below p are put into L -/
noncomputable def ordP (D : mt_D) (L : List (Nat × Nat)) (s : Nat) : Nat → List (Nat × Nat)
  | 0 => L
  | p + 1 => ins D (ordP D L s p) (s, p)
/-- the places of the slots below s, in order -/
noncomputable def ordS (D : mt_D) : Nat → List (Nat × Nat)
  | 0 => []
  | s + 1 => ordP D (ordS D s) s (lenD D s)
theorem ordP_mem {D : mt_D} {L : List (Nat × Nat)} {s : Nat} {x : Nat × Nat} : ∀ p : Nat, x ∈ ordP D L s p ↔ x ∈ L ∨ (x.1 = s ∧ x.2 < p)
  | 0 => by simp [ordP]
  | p + 1 => by
    simp only [ordP]
    rw [ins_mem, ordP_mem p]
    constructor
    · rintro ((h | h) | h)
      · exact Or.inl h
      · exact Or.inr ⟨h.1, by omega⟩
      · rw [h]; exact Or.inr ⟨rfl, by simp⟩
    · rintro (h | ⟨h1, h2⟩)
      · exact Or.inl (Or.inl h)
      · by_cases c : x.2 = p
        · exact Or.inr (Prod.ext h1 c)
        · exact Or.inl (Or.inr ⟨h1, by omega⟩)
theorem ordS_mem {D : mt_D} {x : Nat × Nat} : ∀ s : Nat, x ∈ ordS D s ↔ x.1 < s ∧ x.2 < lenD D x.1
  | 0 => by simp [ordS]
  | s + 1 => by
    simp only [ordS]
    rw [ordP_mem, ordS_mem s]
    constructor
    · rintro (h | ⟨h1, h2⟩)
      · exact ⟨by omega, h.2⟩
      · rw [h1]; exact ⟨by omega, h2⟩
    · rintro ⟨h1, h2⟩
      by_cases c : x.1 = s
      · rw [c] at h2; exact Or.inr ⟨c, h2⟩
      · exact Or.inl ⟨by omega, h2⟩
theorem ordP_len {D : mt_D} {L : List (Nat × Nat)} {s : Nat} : ∀ p : Nat, (ordP D L s p).length = L.length + p
  | 0 => rfl
  | p + 1 => by simp only [ordP]; rw [ins_len, ordP_len p]; omega
def totD (D : mt_D) : Nat → Nat
  | 0 => 0
  | s + 1 => totD D s + lenD D s
theorem ordS_len {D : mt_D} : ∀ s : Nat, (ordS D s).length = totD D s
  | 0 => rfl
  | s + 1 => by simp only [ordS, totD]; rw [ordP_len, ordS_len s]
theorem ordP_ct {D : mt_D} {L : List (Nat × Nat)} {s : Nat} (q : Nat × Nat → Bool) : ∀ p : Nat, (ordP D L s p).countP q = L.countP q + cn (fun b => q (s, b)) p
  | 0 => rfl
  | p + 1 => by simp only [ordP, cn]; rw [ins_ct, ordP_ct q p]; omega
def ctD (D : mt_D) (q : Nat × Nat → Bool) : Nat → Nat
  | 0 => 0
  | s + 1 => ctD D q s + cn (fun b => q (s, b)) (lenD D s)
theorem ordS_ct {D : mt_D} (q : Nat × Nat → Bool) : ∀ s : Nat, (ordS D s).countP q = ctD D q s
  | 0 => rfl
  | s + 1 => by simp only [ordS, ctD]; rw [ordP_ct, ordS_ct q s]
/-- in order -/
def srt (D : mt_D) (L : List (Nat × Nat)) : Prop := ∀ (i j : Nat) (y z : Nat × Nat), i < j → L[i]? = some y → L[j]? = some z → lt_ D y z
/-- where x goes -/
def pos_ (D : mt_D) (L : List (Nat × Nat)) (x : Nat × Nat) (k : Nat) : Prop := k ≤ L.length ∧ (∀ i y, i < k → L[i]? = some y → lt_ D y x) ∧ ∀ i y, k ≤ i → L[i]? = some y → ¬ lt_ D y x
theorem pos_ins {D : mt_D} {L : List (Nat × Nat)} {x : Nat × Nat} {k : Nat} (h : pos_ D L x k) : ins D L x = L.take k ++ x :: L.drop k :=
  ins_at h.1 h.2.1 (fun y hy => h.2.2 k y (Nat.le_refl _) hy)
theorem insk_at {L : List (Nat × Nat)} {x : Nat × Nat} {k : Nat} (hk : k ≤ L.length) (i : Nat) : (L.take k ++ x :: L.drop k)[i]? = if i < k then L[i]? else if i = k then some x else L[i - 1]? := by
  have hl : (L.take k).length = k := by rw [List.length_take]; omega
  by_cases c1 : i < k
  · rw [if_pos c1, List.getElem?_append_left (by omega), List.getElem?_take, if_pos c1]
  · rw [if_neg c1, List.getElem?_append_right (by omega), hl]
    by_cases c2 : i = k
    · rw [if_pos c2, c2, Nat.sub_self]
      rfl
    · rw [if_neg c2]
      obtain ⟨j, rfl⟩ : ∃ j, i = k + 1 + j := ⟨i - k - 1, by omega⟩
      rw [show k + 1 + j - k = j + 1 by omega, List.getElem?_cons_succ, List.getElem?_drop]
      congr 1
      omega
theorem pos_at {D : mt_D} {L : List (Nat × Nat)} {x : Nat × Nat} {k : Nat} (h : pos_ D L x k) (i : Nat) : (ins D L x)[i]? = if i < k then L[i]? else if i = k then some x else L[i - 1]? := by
  rw [pos_ins h, insk_at h.1]
/-- all of L are places, x none of them -/
theorem pos_srt {D : mt_D} (hp : posD D) {L : List (Nat × Nat)} {x : Nat × Nat} {k : Nat} (h : pos_ D L x k) (hs : srt D L) (hL : ∀ y ∈ L, y.2 < lenD D y.1 ∧ y ≠ x) (hx : x.2 < lenD D x.1) : srt D (ins D L x) := by
  have up : ∀ i y, k ≤ i → L[i]? = some y → lt_ D x y := fun i y hi hy => by
    have hm := hL y (List.mem_of_getElem? hy)
    exact lt_tot hp hm.1 hx hm.2 (h.2.2 i y hi hy)
  intro i j y z hij hy hz
  rw [pos_at h] at hy hz
  by_cases c1 : i < k
  · rw [if_pos c1] at hy
    by_cases c2 : j < k
    · rw [if_pos c2] at hz
      exact hs i j y z hij hy hz
    · rw [if_neg c2] at hz
      by_cases c3 : j = k
      · rw [if_pos c3] at hz
        cases hz
        exact h.2.1 i y c1 hy
      · rw [if_neg c3] at hz
        exact hs i (j - 1) y z (by omega) hy hz
  · rw [if_neg c1] at hy
    by_cases c3 : i = k
    · rw [if_pos c3] at hy
      cases hy
      rw [if_neg (by omega), if_neg (by omega)] at hz
      exact up (j - 1) z (by omega) hz
    · rw [if_neg c3] at hy
      rw [if_neg (by omega), if_neg (by omega)] at hz
      exact hs (i - 1) (j - 1) y z (by omega) hy hz
theorem pos_ex {D : mt_D} (hp : posD D) {L : List (Nat × Nat)} (hs : srt D L) (x : Nat × Nat) : ∃ k, pos_ D L x k := by
  obtain ⟨k, hk⟩ : ∃ k, k ≤ L.length ∧ (∀ i y, i < k → L[i]? = some y → lt_ D y x) ∧ (k = L.length ∨ ∃ y, L[k]? = some y ∧ ¬ lt_ D y x) := by
    have : ∀ n, n ≤ L.length → ∃ k, k ≤ n ∧ (∀ i y, i < k → L[i]? = some y → lt_ D y x) ∧ (k = n ∨ ∃ y, L[k]? = some y ∧ ¬ lt_ D y x) := by
      intro n
      induction n with
      | zero => exact fun _ => ⟨0, Nat.le_refl _, fun i y hi => absurd hi (by omega), Or.inl rfl⟩
      | succ n ih =>
        intro hn
        obtain ⟨k, h1, h2, h3⟩ := ih (by omega)
        rcases h3 with h3 | h3
        · subst h3
          have hlt : k < L.length := by omega
          by_cases c : lt_ D L[k] x
          · refine ⟨k + 1, Nat.le_refl _, fun i y hi hy => ?_, Or.inl rfl⟩
            by_cases d : i = k
            · subst d
              rw [List.getElem?_eq_getElem hlt] at hy
              cases hy
              exact c
            · exact h2 i y (by omega) hy
          · exact ⟨k, by omega, h2, Or.inr ⟨_, List.getElem?_eq_getElem hlt, c⟩⟩
        · exact ⟨k, by omega, h2, Or.inr h3⟩
    obtain ⟨k, h1, h2, h3⟩ := this L.length (Nat.le_refl _)
    exact ⟨k, h1, h2, h3⟩
  refine ⟨k, hk.1, hk.2.1, fun i y hi hy n => ?_⟩
  rcases hk.2.2 with c | ⟨z, hz, nz⟩
  · rw [List.getElem?_eq_none (by omega)] at hy
    cases hy
  · by_cases d : i = k
    · subst d
      rw [hz] at hy
      cases hy
      exact nz n
    · exact nz (lt_tr hp (hs k i z y (by omega) hz hy) n)
theorem ordP_srt {D : mt_D} (hp : posD D) {L : List (Nat × Nat)} {s : Nat} (hs : srt D L) (hL : ∀ y ∈ L, y.2 < lenD D y.1 ∧ y.1 < s) : ∀ p : Nat, p ≤ lenD D s → srt D (ordP D L s p)
  | 0, _ => hs
  | p + 1, h => by
    have ih := ordP_srt hp hs hL p (by omega)
    obtain ⟨k, hk⟩ := pos_ex hp ih (s, p)
    refine pos_srt hp hk ih (fun y hy => ?_) (show p < lenD D s by omega)
    rcases (ordP_mem p).mp hy with g | ⟨g1, g2⟩
    · have := hL y g
      exact ⟨this.1, fun e => by rw [e] at this; exact absurd this.2 (by simp)⟩
    · exact ⟨by rw [g1]; omega, fun e => by rw [e] at g2; exact absurd g2 (by simp)⟩
theorem ordS_srt {D : mt_D} (hp : posD D) : ∀ s : Nat, srt D (ordS D s)
  | 0 => fun i j y z _ h => by simp [ordS] at h
  | s + 1 => ordP_srt hp (ordS_srt hp s) (fun y hy => by have := (ordS_mem s).mp hy; exact ⟨this.2, this.1⟩) _ (Nat.le_refl _)
theorem srt_inj {D : mt_D} {L : List (Nat × Nat)} (hs : srt D L) {i j : Nat} {y : Nat × Nat} (hi : L[i]? = some y) (hj : L[j]? = some y) : i = j := by
  rcases Nat.lt_trichotomy i j with h | h | h
  · exact absurd (hs i j y y h hi hj) lt_ir
  · exact h
  · exact absurd (hs j i y y h hj hi) lt_ir
/-- counting over ranks is counting over places -/
theorem ct_cn {L : List (Nat × Nat)} (q : Nat × Nat → Bool) : ∀ n : Nat, n ≤ L.length → (L.take n).countP q = cn (fun i => q (L.getD i (0, 0))) n
  | 0, _ => by simp [cn]
  | n + 1, h => by
    have ih := ct_cn (L := L) q n (by omega)
    have hlt : n < L.length := by omega
    rw [List.take_add_one, List.getElem?_eq_getElem hlt, List.countP_append, ih]
    simp only [cn, List.getD_eq_getElem?_getD, List.getElem?_eq_getElem hlt, Option.getD_some, Option.toList_some, List.countP_cons, List.countP_nil]
    omega
theorem ct_all {L : List (Nat × Nat)} (q : Nat × Nat → Bool) : L.countP q = cn (fun i => q (L.getD i (0, 0))) L.length := by
  rw [← ct_cn q L.length (Nat.le_refl _), List.take_length]
