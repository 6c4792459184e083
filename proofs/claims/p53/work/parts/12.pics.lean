/-! What the contracts share: pictures of the objects, frames. -/
theorem mx_retE {Y : mx_M} {As : List mx_V} {σ σ' : mx_S} {v : Option mx_V} (hy : plainName Y.1.cls = true) (hh : Y.2.2.2.2.2.2 = []) (hn : (mx_ea As).length ≤ Y.2.2.1) (hB : σ'.1 = σ.1) (hk : sK σ ≤ sK σ') (hw : sW σ ≤ sW σ')
    (J : ∀ (kb wb : Nat) (Q : mx_R → Prop), sK σ' ≤ kb → sW σ' ≤ wb → Q (.inl (v, σ')) → mx_J Y kb wb 0 (mx_ent As Y.2.2.1) [] σ Q) : mx_MS Y As σ (.inl (v, σ')) :=
  mx_ret hy hh hn hB hk hw (J _ _ _ (Nat.le_refl _) (Nat.le_refl _) rfl)
theorem mx_retEH {Y : mx_M} {As : List mx_V} {σ σ' : mx_S} {v : Option mx_V} (hy : plainName Y.1.cls = true) (hh : Y.2.2.2.2.2.2 ≠ []) (hn : (mx_ea As).length ≤ Y.2.2.1) (hB : σ'.1 = σ.1) (hk : sK σ ≤ sK σ') (hw : sW σ ≤ sW σ')
    (J : ∀ (kb wb : Nat) (Q : mx_R → Prop), sK σ' ≤ kb → sW σ' ≤ wb → Q (.inl (v, σ')) → mx_J Y kb wb 0 (mx_ent As Y.2.2.1) [] σ Q) : mx_MS Y As σ (.inl (v, σ')) :=
  mx_retH hy hh hn hB hk hw (J _ _ _ (Nat.le_refl _) (Nat.le_refl _) rfl)
theorem mx_pure {Y : mx_M} {As : List mx_V} {σ : mx_S} {v : Option mx_V} (hy : plainName Y.1.cls = true) (hh : Y.2.2.2.2.2.2 = []) (hn : (mx_ea As).length ≤ Y.2.2.1)
    (J : ∀ (kb wb : Nat) (Q : mx_R → Prop), sK σ ≤ kb → sW σ ≤ wb → Q (.inl (v, σ)) → mx_J Y kb wb 0 (mx_ent As Y.2.2.1) [] σ Q) : mx_MS Y As σ (.inl (v, σ)) :=
  mx_retE hy hh hn rfl (Nat.le_refl _) (Nat.le_refl _) J
theorem mx_thrE {Y : mx_M} {As : List mx_V} {σ σ' : mx_S} {E : String} (hy : plainName Y.1.cls = true) (hh : Y.2.2.2.2.2.2 = []) (hn : (mx_ea As).length ≤ Y.2.2.1) (hB : σ'.1 = σ.1) (hk : sK σ ≤ sK σ') (hw : sW σ ≤ sW σ')
    (J : ∀ (kb wb : Nat) (Q : mx_R → Prop), sK σ' ≤ kb → sW σ' ≤ wb → Q (.inr (E, σ')) → mx_J Y kb wb 0 (mx_ent As Y.2.2.1) [] σ Q) : mx_MS Y As σ (.inr (E, σ')) :=
  mx_thr hy hh hn hB hk hw (J _ _ _ (Nat.le_refl _) (Nat.le_refl _) rfl)
/-- a state in which an exception was made -/
abbrev mx_ex (σ : mx_S) : mx_S := (sB σ, sH σ, sN σ, sK σ + 1, sW σ + 6)
theorem wr_at {σ : mx_S} {a : Nat} {e : mx_E} : sH (mx_wr σ a e) a = some e := if_pos rfl
theorem wr_ne {σ : mx_S} {a q : Nat} {e : mx_E} (h : q ≠ a) : sH (mx_wr σ a e) q = sH σ q := if_neg h
theorem al_at {σ : mx_S} {w : Nat} {e : mx_E} : sH (mx_al σ e w) (sN σ) = some e := if_pos rfl
theorem al_ne {σ : mx_S} {q w : Nat} {e : mx_E} (h : q ≠ sN σ) : sH (mx_al σ e w) q = sH σ q := if_neg h
/-- only cells of [lo, hi) are written, none is made -/
def fr (lo hi : Nat) (σ σ' : mx_S) : Prop := sB σ' = sB σ ∧ sN σ' = sN σ ∧ sK σ' = sK σ ∧ sW σ' = sW σ ∧ ∀ q : Nat, (q < lo ∨ hi ≤ q) → sH σ' q = sH σ q
theorem fr.rf {lo hi : Nat} {σ : mx_S} : fr lo hi σ σ := ⟨rfl, rfl, rfl, rfl, fun _ _ => rfl⟩
theorem fr.tr {lo hi : Nat} {a b c : mx_S} (h : fr lo hi a b) (g : fr lo hi b c) : fr lo hi a c :=
  ⟨g.1.trans h.1, g.2.1.trans h.2.1, g.2.2.1.trans h.2.2.1, g.2.2.2.1.trans h.2.2.2.1, fun q hq => (g.2.2.2.2 q hq).trans (h.2.2.2.2 q hq)⟩
theorem fr.mono {lo hi lo' hi' : Nat} {a b : mx_S} (h : fr lo hi a b) (h1 : lo' ≤ lo) (h2 : hi ≤ hi') : fr lo' hi' a b :=
  ⟨h.1, h.2.1, h.2.2.1, h.2.2.2.1, fun q hq => h.2.2.2.2 q (by omega)⟩
theorem fr.wr {lo hi a : Nat} {σ : mx_S} {e : mx_E} (h1 : lo ≤ a) (h2 : a < hi) : fr lo hi σ (mx_wr σ a e) :=
  ⟨rfl, rfl, rfl, rfl, fun q hq => wr_ne (by omega)⟩
theorem fr.at {lo hi q : Nat} {σ σ' : mx_S} (h : fr lo hi σ σ') (hq : q < lo ∨ hi ≤ q) : sH σ' q = sH σ q := h.2.2.2.2 q hq
/-- a row: how many, signs -/
abbrev mt_R : Type := Nat × (Nat → Int)
def isR (σ : mx_S) (r : Nat) (R : mt_R) : Prop := sH σ r = some (.inl (6, [mR (r + 1), mI R.1])) ∧ sH σ (r + 1) = some (.inr (1, 20, fun j => mI (R.2 j)))
def okR (R : mt_R) : Prop := R.1 ≤ 20 ∧ ∀ j : Nat, 0 ≤ R.2 j ∧ R.2 j ≤ 65535
/-- texts: how many, numbers, sizes, letters -/
abbrev mt_T : Type := Nat × (Nat → Int) × (Nat → Int) × (Nat → Int)
def isT (σ : mx_S) (t : Nat) (T : mt_T) : Prop := sH σ t = some (.inl (8, [mR (t + 1), mR (t + 2), mR (t + 3), mI T.1])) ∧ sH σ (t + 1) = some (.inr (0, 12, fun j => mI (T.2.1 j))) ∧ sH σ (t + 2) = some (.inr (0, 12, fun j => mI (T.2.2.1 j))) ∧ sH σ (t + 3) = some (.inr (1, 480, fun j => mI (T.2.2.2 j)))
def okT (T : mt_T) : Prop := T.1 ≤ 12 ∧ (∀ j : Nat, 0 ≤ T.2.2.1 j ∧ T.2.2.1 j ≤ 40) ∧ ∀ j : Nat, 0 ≤ T.2.2.2 j ∧ T.2.2.2 j ≤ 65535
/-- a view: its texts, how many are in order, whether it is ordered, codes, ranks, commons -/
abbrev mt_V : Type := mt_T × Nat × Int × (Nat → Int) × (Nat → Int) × (Nat → Int)
def isV (σ : mx_S) (v : Nat) (V : mt_V) : Prop := sH σ v = some (.inl (9, [mR (v + 1), mR (v + 5), mR (v + 6), mR (v + 7), mI V.2.1, mI V.2.2.1])) ∧ isT σ (v + 1) V.1 ∧ sH σ (v + 5) = some (.inr (0, 480, fun j => mI (V.2.2.2.1 j))) ∧ sH σ (v + 6) = some (.inr (0, 480, fun j => mI (V.2.2.2.2.1 j))) ∧ sH σ (v + 7) = some (.inr (0, 480, fun j => mI (V.2.2.2.2.2 j)))
/-- segments: how many, living, gone, letters gone, homes -/
abbrev mt_G : Type := Nat × (Nat → Int) × (Nat → Int) × (Nat → Int) × (Nat → Int)
def isG (σ : mx_S) (g : Nat) (S : mt_G) : Prop := sH σ g = some (.inl (7, [mR (g + 1), mR (g + 2), mR (g + 3), mR (g + 4), mI S.1])) ∧ sH σ (g + 1) = some (.inr (0, 512, fun j => mI (S.2.1 j))) ∧ sH σ (g + 2) = some (.inr (0, 512, fun j => mI (S.2.2.1 j))) ∧ sH σ (g + 3) = some (.inr (0, 512, fun j => mI (S.2.2.2.1 j))) ∧ sH σ (g + 4) = some (.inr (0, 40, fun j => mI (S.2.2.2.2 j)))
/-- a hall: the present, the first shelf, snapshots, segments, added, taken -/
abbrev mt_H : Type := mt_V × mt_V × (Nat → Int) × mt_G × Nat × Nat
def isH (σ : mx_S) (h : Nat) (A : mt_H) : Prop := sH σ h = some (.inl (2, [mR (h + 1), mR (h + 9), mR (h + 10), mR (h + 11), mR (h + 16), mI A.2.2.2.2.1, mI A.2.2.2.2.2])) ∧ isV σ (h + 1) A.1 ∧ isV σ (h + 34) A.2.1 ∧ (∃ f : Nat → mx_V, sH σ (h + 9) = some (.inr (5, 6, f)) ∧ ∀ i : Nat, i < 6 → f i = mR (h + 34 + 8 * i)) ∧ sH σ (h + 10) = some (.inr (0, 6, fun j => mI (A.2.2.1 j))) ∧ isG σ (h + 11) A.2.2.2.1
/-- the object itself: its row, its hall; what else it has is never asked -/
def isO (σ : mx_S) (o : Nat) (R : mt_R) (A : mt_H) : Prop := (∃ (x2 x3 x4 x5 x6 : Nat) (c : Int), True ∧ True ∧ sH σ o = some (.inl (10, [mR (o + 1), mR (o + 3), mR x2, mR x3, mR x4, mR x5, mR x6, mI c]))) ∧ isR σ (o + 1) R ∧ isH σ (o + 3) A
theorem isR.kp {σ σ' : mx_S} {r : Nat} {R : mt_R} (h : isR σ r R) (k : ∀ q : Nat, r ≤ q → q < r + 2 → sH σ' q = sH σ q) : isR σ' r R :=
  ⟨(k _ (by omega) (by omega)).trans h.1, (k _ (by omega) (by omega)).trans h.2⟩
theorem isT.kp {σ σ' : mx_S} {t : Nat} {T : mt_T} (h : isT σ t T) (k : ∀ q : Nat, t ≤ q → q < t + 4 → sH σ' q = sH σ q) : isT σ' t T :=
  ⟨(k _ (by omega) (by omega)).trans h.1, (k _ (by omega) (by omega)).trans h.2.1, (k _ (by omega) (by omega)).trans h.2.2.1, (k _ (by omega) (by omega)).trans h.2.2.2⟩
theorem isV.kp {σ σ' : mx_S} {v : Nat} {V : mt_V} (h : isV σ v V) (k : ∀ q : Nat, v ≤ q → q < v + 8 → sH σ' q = sH σ q) : isV σ' v V :=
  ⟨(k _ (by omega) (by omega)).trans h.1, h.2.1.kp (fun q h1 h2 => k q (by omega) (by omega)), (k _ (by omega) (by omega)).trans h.2.2.1, (k _ (by omega) (by omega)).trans h.2.2.2.1, (k _ (by omega) (by omega)).trans h.2.2.2.2⟩
theorem isG.kp {σ σ' : mx_S} {g : Nat} {S : mt_G} (h : isG σ g S) (k : ∀ q : Nat, g ≤ q → q < g + 5 → sH σ' q = sH σ q) : isG σ' g S :=
  ⟨(k _ (by omega) (by omega)).trans h.1, (k _ (by omega) (by omega)).trans h.2.1, (k _ (by omega) (by omega)).trans h.2.2.1, (k _ (by omega) (by omega)).trans h.2.2.2.1, (k _ (by omega) (by omega)).trans h.2.2.2.2⟩
theorem isH.kp {σ σ' : mx_S} {h : Nat} {A : mt_H} (q : isH σ h A) (k : ∀ q : Nat, h ≤ q → q < h + 82 → sH σ' q = sH σ q) : isH σ' h A := by
  obtain ⟨q1, q2, q3, ⟨f, q4, q4'⟩, q5, q6⟩ := q
  exact ⟨(k _ (by omega) (by omega)).trans q1, q2.kp (fun q h1 h2 => k q (by omega) (by omega)), q3.kp (fun q h1 h2 => k q (by omega) (by omega)), ⟨f, (k _ (by omega) (by omega)).trans q4, q4'⟩, (k _ (by omega) (by omega)).trans q5, q6.kp (fun q h1 h2 => k q (by omega) (by omega))⟩
theorem isO.kp {σ σ' : mx_S} {o : Nat} {R : mt_R} {A : mt_H} (q : isO σ o R A) (k : ∀ q : Nat, o ≤ q → q < o + 85 → sH σ' q = sH σ q) : isO σ' o R A := by
  obtain ⟨⟨x2, x3, x4, x5, x6, c, q0, q0', q1⟩, q2, q3⟩ := q
  exact ⟨⟨x2, x3, x4, x5, x6, c, q0, q0', (k _ (by omega) (by omega)).trans q1⟩, q2.kp (fun q h1 h2 => k q (by omega) (by omega)), q3.kp (fun q h1 h2 => k q (by omega) (by omega))⟩
/-! what the pure methods answer -/
def rSign (R : mt_R) (i : Int) : Int := if i < 0 then 0 else if (R.1 : Int) ≤ i then 0 else if 20 ≤ i then 0 else R.2 i.toNat
def tIs (T : mt_T) (s : Int) : Int := if s < 0 then 0 else if (T.1 : Int) ≤ s then 0 else if 12 ≤ s then 0 else 1
def tSize (T : mt_T) (s : Int) : Int := if s < 0 then 0 else if (T.1 : Int) ≤ s then 0 else if 12 ≤ s then 0 else T.2.2.1 s.toNat
def tNum (T : mt_T) (s : Int) : Int := if s < 0 then -1 else if (T.1 : Int) ≤ s then -1 else if 12 ≤ s then -1 else T.2.1 s.toNat
def tLet (T : mt_T) (s p : Int) : Int := if s < 0 then 0 else if (T.1 : Int) ≤ s then 0 else if 12 ≤ s then 0 else if p < 0 then 0 else if p < T.2.2.1 s.toNat then (if 40 ≤ p then 0 else T.2.2.2 (s.toNat * 40 + p.toNat)) else 0
theorem rSign_rg {R : mt_R} (h : okR R) (i : Int) : 0 ≤ rSign R i ∧ rSign R i ≤ 65535 := by
  unfold rSign
  split
  · omega
  split
  · omega
  split
  · omega
  exact h.2 _
theorem tSize_rg {T : mt_T} (h : okT T) (s : Int) : 0 ≤ tSize T s ∧ tSize T s ≤ 40 := by
  unfold tSize
  split
  · omega
  split
  · omega
  split
  · omega
  exact h.2.1 _
theorem tLet_rg {T : mt_T} (h : okT T) (s p : Int) : 0 ≤ tLet T s p ∧ tLet T s p ≤ 65535 := by
  unfold tLet
  split
  · omega
  split
  · omega
  split
  · omega
  split
  · omega
  split
  · split
    · omega
    · exact h.2.2 _
  · omega
theorem mx_pureI {Y : mx_M} {As : List mx_V} {σ : mx_S} {x : Int} (hy : plainName Y.1.cls = true) (hh : Y.2.2.2.2.2.2 = []) (hn : (mx_ea As).length ≤ Y.2.2.1)
    (J : ∀ (kb wb : Nat) (Q : mx_R → Prop), sK σ ≤ kb → sW σ ≤ wb → (∀ y, y = x → Q (.inl (some (mI y), σ))) → mx_J Y kb wb 0 (mx_ent As Y.2.2.1) [] σ Q) : mx_MS Y As σ (.inl (some (mI x), σ)) :=
  mx_retE hy hh hn rfl (Nat.le_refl _) (Nat.le_refl _) fun kb wb Q hk hw hQ => J kb wb Q hk hw (fun y hy => by rw [hy]; exact hQ)
theorem mx_pureL {Y : mx_M} {As : List mx_V} {σ : mx_S} {x : Int} (hy : plainName Y.1.cls = true) (hh : Y.2.2.2.2.2.2 = []) (hn : (mx_ea As).length ≤ Y.2.2.1)
    (J : ∀ (kb wb : Nat) (Q : mx_R → Prop), sK σ ≤ kb → sW σ ≤ wb → (∀ y, y = x → Q (.inl (some (mL y), σ))) → mx_J Y kb wb 0 (mx_ent As Y.2.2.1) [] σ Q) : mx_MS Y As σ (.inl (some (mL x), σ)) :=
  mx_retE hy hh hn rfl (Nat.le_refl _) (Nat.le_refl _) fun kb wb Q hk hw hQ => J kb wb Q hk hw (fun y hy => by rw [hy]; exact hQ)
