/-! The law's walk: where the row stands; its end. -/
theorem iv_sum {D : mt_D} {w : List Int} : ∀ s : Nat, ctD D (ivB D w 0 1) s = ctD D (ivB D w 0 0) s + ctD D (fdB D w) s := by
  have e : ∀ (y : Nat → Nat × Nat) (n : Nat), cn (fun b => ivB D w 0 1 (y b)) n = cn (fun b => ivB D w 0 0 (y b)) n + cn (fun b => fdB D w (y b)) n := fun y n => by
    induction n with
    | zero => rfl
    | succ n ih =>
      simp only [cn]
      rw [ih]
      have a1 : ivB D w 0 1 (y n) = true ↔ crL (suf D (y n)) w ≤ 0 := by
        unfold ivB
        rw [decide_eq_true_iff, List.drop_zero]
        omega
      have a0 : ivB D w 0 0 (y n) = true ↔ crL (suf D (y n)) w < 0 := by
        unfold ivB
        rw [decide_eq_true_iff, List.drop_zero]
        exact ⟨fun q => q.elim id (fun z => absurd rfl z.2), Or.inl⟩
      have af : fdB D w (y n) = true ↔ crL (suf D (y n)) w = 0 := by
        unfold fdB
        rw [decide_eq_true_iff]
      by_cases c0 : crL (suf D (y n)) w < 0
      · rw [if_pos (a1.mpr (by omega)), if_pos (a0.mpr c0), if_neg (fun z => by have := af.mp z; omega)]
        omega
      · by_cases c1 : crL (suf D (y n)) w = 0
        · rw [if_pos (a1.mpr (by omega)), if_neg (fun z => c0 (a0.mp z)), if_pos (af.mpr c1)]
          omega
        · rw [if_neg (fun z => by have := a1.mp z; omega), if_neg (fun z => c0 (a0.mp z)), if_neg (fun z => c1 (af.mp z))]
          rfl
  intro s
  induction s with
  | zero => rfl
  | succ s ih =>
    simp only [ctD]
    rw [ih, e (fun b => (s, b)) (lenD D s)]
    omega
theorem ctD_tot {D : mt_D} (q : Nat × Nat → Bool) : ∀ s : Nat, ctD D q s ≤ totD D s
  | 0 => Nat.le_refl _
  | s + 1 => by
    simp only [ctD, totD]
    have := ctD_tot q s (D := D)
    have := cn_le (fun b => q (s, b)) (lenD D s)
    omega
theorem TE_mono {o b ta m N n n' l7 l8 ra : Nat} {D P : mt_D} {w : List Int} {E : Option mt_D} {bb : Bool} {σ : mx_S} (h : TE o b ta m N D w P E bb n l7 l8 ra σ) (hn : n ≤ n') : TE o b ta m N D w P E bb n' l7 l8 ra σ := ⟨RE_mono h.1 hn, h.2⟩
theorem law_end {kb wb : Nat} (hkb : 5000 ≤ kb) (hwb : 540000 ≤ wb) {o b ta m N l7 l8 ra : Nat} {D P : mt_D} {w : List Int} {E : Option mt_D} {bb : Bool} {Q : mx_R → Prop} {x l9 l10 l11 : Int} {l12 : Nat} {σ : mx_S} (hD : D.length = m) (hm : m ≤ 3) (hx : tx D) (hv : vS P E x D) (hw0 : 0 < w.length) (hw3 : w.length ≤ 20) (hQ : ∀ σ', Q (.inl (some (mI 1), σ'))) (h : TE o b ta m N D w P E bb 2000 l7 l8 ra σ) : mx_J YL_law kb wb 1014 [some (mR b), some (mR o), some (mI 1), some (mI (m : Int)), some (mR ta), some (mI (totD D m : Nat)), some (mI x), some (mR l7), some (mR l8), some (mI l9), some (mI l10), some (mI l11), some (mR l12), some (mR ra), some (mI (ctD D (fdB D w) m : Nat)), some (mI (m : Int)), none, none, none, none, none, none, none] [] σ Q := by
  have u1 := tot9 hx.2.1 m
  subst hD
  refine B_YL_law_1014 ⟨fun _ => ⟨fun d => absurd d (by decide), fun _ => ?_⟩, fun d => absurd (Int.le_refl _) d⟩
  refine TE_call h (by omega) hkb hwb h.1.1.1 fx_rf (S_count h.1.1.1 hv hw0) fun s1 T1 => ⟨fun d => absurd rfl d, fun _ => ?_⟩
  have x2 := S_foundX T1.1.1.1 hv hw0 1
  refine TE_call T1 (by omega) hkb hwb x2.1 x2.2.1 x2.2.2 fun s2 T2 => ⟨fun d => absurd rfl d, fun _ => ?_⟩
  obtain ⟨gw, r1, r2⟩ := id T2.2.2
  refine ⟨_, _, _, r1, ?_⟩
  rw [wl_1 (by omega)]
  have x3 := S_intX T2.1.1.1 hv hw0 (Nat.lt_succ_self w.length) 1
  refine TE_call T2 (by omega) hkb hwb x3.1 x3.2.1 x3.2.2 fun s3 T3 => ⟨fun d => absurd rfl d, fun _ => ?_⟩
  obtain ⟨gw, r1, r2⟩ := id T3.2.2
  refine ⟨_, _, _, r1, ?_⟩
  have x4 := S_int T3.1.1.1 hv hw0 (Nat.le_refl w.length) 1
  rw [Nat.sub_self] at x4
  refine TE_call T3 (by omega) hkb hwb T3.1.1.1 fx_rf x4 fun s4 T4 => ?_
  obtain ⟨gw, r1, r2⟩ := id T4.2.2
  refine ⟨_, _, _, r1, ?_⟩
  have x5 := S_int T4.1.1.1 hv hw0 (Nat.le_refl w.length) 0
  rw [Nat.sub_self] at x5
  refine TE_call T4 (by omega) hkb hwb T4.1.1.1 fx_rf x5 fun s5 T5 => ⟨fun d => absurd ?_ d, fun _ => ?_⟩
  · have e := iv_sum (D := D) (w := w) D.length
    have b1 := ctD_tot (D := D) (ivB D w 0 1) D.length
    have b0 := ctD_tot (D := D) (ivB D w 0 0) D.length
    rw [wl_s (by omega) (by omega)]
    omega
  · obtain ⟨s6, y1, y2, y3⟩ := S_sound T5.1.1.1 T5.1.1.2.1.2.2.1
    obtain ⟨G6, k6⟩ := GT_ms T5.1.1 y1 y2
    have hb := bd_kb G6.2.2 (by omega) hkb hwb
    obtain ⟨fs, hd⟩ := T5.1.1.1.hd
    exact ⟨fs, hd, _, s6, y3, hb.1, hb.2, fun d => absurd d (by decide), fun _ => hQ s6⟩
theorem law_1023 {kb wb : Nat} (hkb : 5000 ≤ kb) (hwb : 540000 ≤ wb) {o b ta m N l7 l8 ra k z : Nat} {D P : mt_D} {w : List Int} {E : Option mt_D} {bb : Bool} {Q : mx_R → Prop} {x l9 l10 l11 : Int} {l12 : Nat} (hD : D.length = m) (hm : m ≤ 3) (hx : tx D) (hv : vS P E x D) (hw : let3 w) (hw0 : 0 < w.length) (hw3 : w.length ≤ 20) (hk : k < m) (hz : z ≤ 3000)
    (K : ∀ σ', TE o b ta m N D w P E bb z l7 l8 ra σ' → mx_J YL_law kb wb 1014 [some (mR b), some (mR o), some (mI 1), some (mI (m : Int)), some (mR ta), some (mI (totD D m : Nat)), some (mI x), some (mR l7), some (mR l8), some (mI l9), some (mI l10), some (mI l11), some (mR l12), some (mR ra), some (mI (ctD D (fdB D w) (k + 1) : Nat)), some (mI ((k + 1 : Nat) : Int)), none, none, none, none, none, none, none] [] σ' Q) :
    ∀ (c p n : Nat) (σ : mx_S), p + c = lenD D k → n + 2 * c ≤ z → TE o b ta m N D w P E bb n l7 l8 ra σ → mx_J YL_law kb wb 1023 [some (mR b), some (mR o), some (mI 1), some (mI (m : Int)), some (mR ta), some (mI (totD D m : Nat)), some (mI x), some (mR l7), some (mR l8), some (mI l9), some (mI l10), some (mI l11), some (mR l12), some (mR ra), some (mI ((ctD D (fdB D w) k + cn (fun b => fdB D w (k, b)) p : Nat) : Int)), some (mI (k : Int)), some (mI (p : Int)), none, none, none, none, none, none] [] σ Q := by
  have u1 := tot9 hx.2.1 m
  have u2 := hx.2.1 k
  have u3 := ctD_tot (D := D) (fdB D w) k
  have u4 : totD D k ≤ totD D m := totD_mono m (by omega)
  intro c
  induction c with
  | zero =>
    intro p n σ hp hn h
    have hp : p = lenD D k := hp
    subst hp
    obtain ⟨f, a, g, t1, t2, t3, t4, t5, t6⟩ := LT_txt h.1.1.2.1 (k := k) (by omega)
    refine B_YL_law_1023 ⟨_, _, _, t1, by decide, by omega, t5, a, t2, _, _, _, t3, fun _ => ?_, fun d => absurd (Int.le_refl _) d⟩
    rw [wl_1 (by omega)]
    exact K σ (TE_mono h (by omega))
  | succ c ih =>
    intro p n σ hp hn h
    obtain ⟨f, a, g, t1, t2, t3, t4, t5, t6⟩ := LT_txt h.1.1.2.1 (k := k) (by omega)
    have hb := bd_kb h.1.1.2.2 (by omega) hkb hwb
    have u5 := cn_le (fun b => fdB D w (k, b)) p
    have ia := kL_isAt (p := p) t6 h.2.2 hw.W (show lenD D k ≤ 1000 by omega) (by omega) hw3 hw0
    have M : ∀ (d : Nat) (i : Int) (s : mx_S), (d = if fdB D w (k, p) = true then 1 else 0) → (i = (d : Int)) → TE o b ta m N D w P E bb (n + 2) l7 l8 ra s → mx_J YL_law kb wb 1082 [some (mR b), some (mR o), some (mI 1), some (mI (m : Int)), some (mR ta), some (mI (totD D m : Nat)), some (mI x), some (mR l7), some (mR l8), some (mI l9), some (mI l10), some (mI l11), some (mR l12), some (mR ra), some (mI ((ctD D (fdB D w) k + cn (fun b => fdB D w (k, b)) p : Nat) : Int)), some (mI (k : Int)), some (mI (p : Int)), some (mI i), none, none, none, none, none] [mI 1] s Q := fun d i s hd hi T => by
      have z1 : cn (fun b => fdB D w (k, b)) (p + 1) = cn (fun b => fdB D w (k, b)) p + d := by rw [hd]; rfl
      have K9 := ih (p + 1) (n + 2) s (by omega) (by omega) T
      rw [z1, ← Nat.add_assoc] at K9
      have hd1 : d ≤ 1 := by rw [hd]; split <;> decide
      have M1 : ∀ e : Nat, e = d → mx_J YL_law kb wb 1101 [some (mR b), some (mR o), some (mI 1), some (mI (m : Int)), some (mR ta), some (mI (totD D m : Nat)), some (mI x), some (mR l7), some (mR l8), some (mI l9), some (mI l10), some (mI l11), some (mR l12), some (mR ra), some (mI ((ctD D (fdB D w) k + cn (fun b => fdB D w (k, b)) p : Nat) : Int)), some (mI (k : Int)), some (mI (p : Int)), some (mI i), none, none, none, none, none] [mI (e : Int), mI ((ctD D (fdB D w) k + cn (fun b => fdB D w (k, b)) p : Nat) : Int)] s Q := fun e he => by
        subst he
        refine B_YL_law_1101 ?_
        rw [wl_a (by omega), wl_1 (by omega)]
        exact K9
      refine B_YL_law_1082 (B_YL_law_1087 ?_)
      rw [and_11]
      exact ⟨fun q => M1 0 (by omega), fun q => M1 1 (by omega)⟩
    refine B_YL_law_1023 ⟨_, _, _, t1, by decide, by omega, t5, a, t2, _, _, _, t3, fun d => absurd d (by omega), fun _ => ⟨_, _, _, t1, by decide, by omega, t5, a, t2, _, σ, ia, hb.1, hb.2, fun d => ?_, fun d => ?_⟩⟩
    · have e0 : ¬ crL ((D.getD k []).drop p) w = 0 := fun q => by rw [if_pos q] at d; exact absurd d (by decide)
      have hf : ¬ fdB D w (k, p) = true := fun q => e0 (of_decide_eq_true q)
      rw [if_neg e0]
      exact M 0 0 σ (by rw [if_neg hf]) rfl (TE_mono h (by omega))
    · have e0 : crL ((D.getD k []).drop p) w = 0 := Decidable.byContradiction fun q => d (by rw [if_neg q])
      have hf : fdB D w (k, p) = true := decide_eq_true e0
      rw [if_pos e0]
      have x1 := S_found h.1.1.1 hv hw0 (k := k) (p := p) (by omega) (by omega) hf 0
      rw [if_pos rfl] at x1
      refine TE_call h (by omega) hkb hwb h.1.1.1 fx_rf x1 fun s1 T1 => ⟨fun d => absurd rfl d, fun _ => ?_⟩
      have x2 := S_found T1.1.1.1 hv hw0 (k := k) (p := p) (by omega) (by omega) hf 1
      rw [if_neg (by decide)] at x2
      exact TE_call T1 (by omega) hkb hwb T1.1.1.1 fx_rf x2 fun s2 T2 => ⟨fun d => absurd rfl d, fun _ => M 1 1 s2 (by rw [if_pos hf]) rfl T2⟩
theorem law_1014 {kb wb : Nat} (hkb : 5000 ≤ kb) (hwb : 540000 ≤ wb) {o b ta m N l7 l8 ra : Nat} {D P : mt_D} {w : List Int} {E : Option mt_D} {bb : Bool} {Q : mx_R → Prop} {x l9 l10 l11 : Int} {l12 : Nat} (hD : D.length = m) (hm : m ≤ 3) (hx : tx D) (hv : vS P E x D) (hw : let3 w) (hw0 : 0 < w.length) (hw3 : w.length ≤ 20) (hQ : ∀ σ', Q (.inl (some (mI 1), σ'))) :
    ∀ (c k n : Nat) (σ : mx_S), k + c = m → n + 20 * c ≤ 2000 → TE o b ta m N D w P E bb n l7 l8 ra σ → mx_J YL_law kb wb 1014 [some (mR b), some (mR o), some (mI 1), some (mI (m : Int)), some (mR ta), some (mI (totD D m : Nat)), some (mI x), some (mR l7), some (mR l8), some (mI l9), some (mI l10), some (mI l11), some (mR l12), some (mR ra), some (mI (ctD D (fdB D w) k : Nat)), some (mI (k : Int)), none, none, none, none, none, none, none] [] σ Q := by
  intro c
  induction c with
  | zero =>
    intro k n σ hk hn h
    have hk : k = m := hk
    subst hk
    exact law_end hkb hwb hD hm hx hv hw0 hw3 hQ (TE_mono h (by omega))
  | succ c ih =>
    intro k n σ hk hn h
    have u2 := hx.2.1 k
    exact B_YL_law_1014 ⟨fun d => absurd d (by omega), fun _ => law_1023 hkb hwb hD hm hx hv hw hw0 hw3 (by omega) (z := n + 20) (by omega) (fun s' T' => ih (k + 1) (n + 20) s' (by omega) (by omega) T') (lenD D k) 0 n σ (Nat.zero_add _) (by omega) h⟩
/-- the law is right -/
theorem law_all {kb wb : Nat} (hkb : 5000 ≤ kb) (hwb : 540000 ≤ wb) {σ : mx_S} {b : Nat} {Q : mx_R → Prop} (hs : scr σ b) (hb : b < sN σ) (hB : sB σ ≤ sN σ) (h0 : sK σ = 0) (h1 : sW σ = 0) (hQ : ∀ σ', Q (.inl (some (mI 1), σ'))) : mx_J YL_law kb wb 0 [some (mR b), none, none, none, none, none, none, none, none, none, none, none, none, none, none, none, none, none, none, none, none, none, none] [] σ Q := by
  refine law_A hkb hwb hs hb hB h0 h1 fun s1 o ta m m1 m3 G1 => ?_
  refine law_B hkb hwb m3 (fun s2 D N hD hx G2 s0 hs0 => ?_) m [] (ta + 1) 230 s1 (Nat.zero_add _) (by omega) ⟨fun k hk => absurd hk (Nat.not_lt_zero _), fun k => Nat.zero_le _, fun k x hx => by simp at hx⟩ G1
  refine law_C hkb hwb m3 m1 hD hx G2 hs0 fun s3 P E bb x w G3 hv => ?_
  refine law_244 hkb hwb hx hD m3 G3 fun s4 N' l7 l8 l12 R4 hl hl2 h12 => ?_
  refine law_546 hkb hwb hD m3 m1 hx hv hl (fun s5 l10 l11 l13 R5 => ?_) (totD D m) 0 330 s4 z0 (Nat.zero_add _) (by have := tot9 hx.2.1 m; omega) R4 hl2 h12 (fun j hj => rfl)
  refine law_803 hkb hwb hD m3 hx hv R5 fun s6 w' ra hw hw0 hw3 T6 => ?_
  exact law_1014 hkb hwb hD m3 hx hv hw hw0 hw3 hQ m 0 1100 s6 (Nat.zero_add _) (by omega) T6
