theorem B_Y6_init_0 {kb wb : Nat} {σ : mx_S} {Q : mx_R → Prop} {l0 : Nat} (K : 0 ≤ (20 : Int) ∧ (20 : Int) ≤ 134217728 ∧ sK σ + 1 ≤ kb ∧ sW σ + ((20 : Int)).toNat ≤ wb ∧ ∀ σ1 a2, σ1 = mx_al σ (.inr (1, ((20 : Int)).toNat, fun _ => mI 0)) ((20 : Int)).toNat → a2 = sN σ → ∃ (fs : List mx_V), sH σ1 (l0) = some (.inl (6, fs)) ∧ 0 < fs.length ∧ sB σ1 ≤ l0 ∧ ∀ σ4, σ4 = mx_wr σ1 (l0) (.inl (6, fs.set 0 (mR a2))) → Q (.inl (none, σ4))) : mx_J Y6_init kb wb 0 [some (mR l0)] [] σ Q := by
  refine mj_aload_n (k := 0) dX6_init_0 rfl rfl ?_
  refine mj_objInit (rest := []) dX6_init_1 w_54 w_47 w_objcode (by decide) (Nat.le_of_ble_eq_true rfl) ?_
  refine mj_aload_n (k := 0) dX6_init_4 rfl rfl ?_
  refine mj_bipush (n := 20) dX6_init_5 ⟨by decide, by decide⟩ (by decide) ?_
  obtain ⟨h0a2, h1a2, hka2, hwa2, K⟩ := K
  replace K := K _ _ rfl rfl
  refine mj_newa (kd := 1) dX6_init_7 (by decide) w_62 h0a2 h1a2 hka2 hwa2 ?_
  generalize mx_al σ (.inr (1, ((20 : Int)).toNat, fun _ => mI 0)) ((20 : Int)).toNat = σ1 at K ⊢
  generalize sN σ = a2 at K ⊢
  obtain ⟨fs3, hffs3, hlfs3, hbfs3, K⟩ := K
  replace K := K _ rfl
  refine mj_put dX6_init_9 pf_Y6_init_9 hffs3 hlfs3 hbfs3 ⟨rfl, rfl⟩ ?_
  generalize mx_wr σ1 (l0) (.inl (6, fs3.set 0 (mR a2))) = σ4 at K ⊢
  exact mj_ret (v := none) ⟨dX6_init_12, rfl⟩ K
theorem B_Y0_init_0 {kb wb : Nat} {σ : mx_S} {Q : mx_R → Prop} {l0 : Nat} (K : 0 ≤ (8 : Int) ∧ (8 : Int) ≤ 134217728 ∧ sK σ + 1 ≤ kb ∧ sW σ + ((8 : Int)).toNat ≤ wb ∧ ∀ σ1 a2, σ1 = mx_al σ (.inr (4, ((8 : Int)).toNat, fun _ => mN)) ((8 : Int)).toNat → a2 = sN σ → ∃ (fs : List mx_V), sH σ1 (l0) = some (.inl (0, fs)) ∧ 0 < fs.length ∧ sB σ1 ≤ l0 ∧ ∀ σ4, σ4 = mx_wr σ1 (l0) (.inl (0, fs.set 0 (mR a2))) → mx_J Y0_init kb wb 15 [some (mR l0), some (mI ((0 : Int)))] [] σ4 Q) : mx_J Y0_init kb wb 0 [some (mR l0), none] [] σ Q := by
  refine mj_aload_n (k := 0) dX0_init_0 rfl rfl ?_
  refine mj_objInit (rest := []) dX0_init_1 w_145 w_47 w_objcode (by decide) (Nat.le_of_ble_eq_true rfl) ?_
  refine mj_aload_n (k := 0) dX0_init_4 rfl rfl ?_
  refine mj_bipush (n := 8) dX0_init_5 ⟨by decide, by decide⟩ (by decide) ?_
  obtain ⟨h0a2, h1a2, hka2, hwa2, K⟩ := K
  replace K := K _ _ rfl rfl
  refine mj_anew (kd := 4) dX0_init_7 (by decide) w_146 h0a2 h1a2 hka2 hwa2 ?_
  generalize mx_al σ (.inr (4, ((8 : Int)).toNat, fun _ => mN)) ((8 : Int)).toNat = σ1 at K ⊢
  generalize sN σ = a2 at K ⊢
  obtain ⟨fs3, hffs3, hlfs3, hbfs3, K⟩ := K
  replace K := K _ rfl
  refine mj_put dX0_init_10 pf_Y0_init_11 hffs3 hlfs3 hbfs3 ⟨rfl, rfl⟩ ?_
  generalize mx_wr σ1 (l0) (.inl (0, fs3.set 0 (mR a2))) = σ4 at K ⊢
  refine mj_iconst dX0_init_13 ⟨by decide, by decide⟩ ?_
  refine mj_istore_n (k := 1) (ls' := [some (mR l0), some (mI ((0 : Int)))]) dX0_init_14 rfl (by decide) rfl ?_
  exact K
theorem B_Y0_init_15 {kb wb : Nat} {σ : mx_S} {Q : mx_R → Prop} {l0 : Nat} {l1 : Int} (K : ∃ (fs : List mx_V), sH σ (l0) = some (.inl (0, fs)) ∧ ∃ x2, fs[0]? = some (mR x2) ∧ ∃ (kd n3 : Nat) (f : Nat → mx_V), sH σ (x2) = some (.inr (kd, n3, f)) ∧ ((n3 : Int) ≤ l1 → Q (.inl (none, σ))) ∧ (¬ ((n3 : Int) ≤ l1) → ∃ (fs : List mx_V), sH σ (l0) = some (.inl (0, fs)) ∧ ∃ x5, fs[0]? = some (mR x5) ∧ sK σ + 1 ≤ kb ∧ sW σ + 2 ≤ wb ∧ ∀ σ6 a7, σ6 = mx_al σ (.inl (6, [mN, mI 0])) 2 → a7 = sN σ → ∃ (σ8 : mx_S), mx_MS Y6_init [mR a7] σ6 (.inl (none, σ8)) ∧ sK σ8 ≤ kb ∧ sW σ8 ≤ wb ∧ ∃ (n9 : Nat) (f : Nat → mx_V) (fs : List mx_V), sH σ8 (x5) = some (.inr (4, n9, f)) ∧ sB σ8 ≤ x5 ∧ 0 ≤ l1 ∧ l1 < (n9 : Int) ∧ sH σ8 (a7) = some (.inl (6, fs)) ∧ ∀ σ10, σ10 = mx_wr σ8 (x5) (.inr (4, n9, upV f (l1).toNat (mR a7))) → mx_J Y0_init kb wb 15 [some (mR l0), some (mI (mx_w (l1 + (1 : Int))))] [] σ10 Q)) : mx_J Y0_init kb wb 15 [some (mR l0), some (mI l1)] [] σ Q := by
  refine mj_iload_n (k := 1) dX0_init_15 rfl rfl ?_
  refine mj_aload_n (k := 0) dX0_init_16 rfl rfl ?_
  obtain ⟨fs1, hffs1, x2, hxx2, K⟩ := K
  refine mj_get dX0_init_17 lf_Y0_init_11 hffs1 hxx2 ?_
  obtain ⟨kd, n3, fn3, hfn3, K⟩ := K
  refine mj_alen dX0_init_20 hfn3 ?_
  refine mj_icmp_ge (tgt := 43) dX0_init_21 (by decide) ⟨fun h => ?_, fun h => ?_⟩
  · replace K := K.1 h
    exact mj_ret (v := none) ⟨dX0_init_43, rfl⟩ K
  · replace K := K.2 h
    refine mj_aload_n (k := 0) dX0_init_24 rfl rfl ?_
    obtain ⟨fs4, hffs4, x5, hxx5, K⟩ := K
    refine mj_get dX0_init_25 lf_Y0_init_11 hffs4 hxx5 ?_
    refine mj_iload_n (k := 1) dX0_init_28 rfl rfl ?_
    obtain ⟨hka7, hwa7, K⟩ := K
    replace K := K _ _ rfl rfl
    refine mj_new dX0_init_29 nf_Y0_init_9 hka7 hwa7 ?_
    change mx_J _ _ _ _ _ (mR (sN σ) :: _) (mx_al σ (.inl (6, [mN, mI 0])) 2) _
    generalize mx_al σ (.inl (6, [mN, mI 0])) 2 = σ6 at K ⊢
    generalize sN σ = a7 at K ⊢
    refine mj_dup dX0_init_32 rfl ?_
    obtain ⟨σ8, hMσ8, hkσ8, hwσ8, K⟩ := K
    refine mj_callIN (As := []) (rest := [mR a7, mI l1, mR x5]) (b := a7) dX0_init_33 k_Y0_init_17 rfl (Nat.le_of_ble_eq_true rfl) hMσ8 hkσ8 hwσ8 ?_
    obtain ⟨n9, fn9, fs11, hfn9, hbn9, h0n9, h1n9, hvn9, K⟩ := K
    replace K := K _ rfl
    refine mj_aast dX0_init_36 hfn9 hbn9 h0n9 h1n9 hvn9 (by decide) ?_
    generalize mx_wr σ8 (x5) (.inr (4, n9, upV fn9 (l1).toNat (mR a7))) = σ10 at K ⊢
    refine mj_iinc (k := 1) (ls' := [some (mR l0), some (mI (mx_w (l1 + (1 : Int))))]) dX0_init_37 rfl (by decide) rfl ?_
    refine mj_goto (tgt := 15) dX0_init_40 (by decide) ?_
    exact K
theorem B_Y1_init_0 {kb wb : Nat} {σ : mx_S} {Q : mx_R → Prop} {l0 : Nat} (K : 0 ≤ (40 : Int) ∧ (40 : Int) ≤ 134217728 ∧ sK σ + 1 ≤ kb ∧ sW σ + ((40 : Int)).toNat ≤ wb ∧ ∀ σ1 a2, σ1 = mx_al σ (.inr (1, ((40 : Int)).toNat, fun _ => mI 0)) ((40 : Int)).toNat → a2 = sN σ → ∃ (fs : List mx_V), sH σ1 (l0) = some (.inl (1, fs)) ∧ 0 < fs.length ∧ sB σ1 ≤ l0 ∧ ∀ σ4, σ4 = mx_wr σ1 (l0) (.inl (1, fs.set 0 (mR a2))) → 0 ≤ (40 : Int) ∧ (40 : Int) ≤ 134217728 ∧ sK σ4 + 1 ≤ kb ∧ sW σ4 + ((40 : Int)).toNat ≤ wb ∧ ∀ σ5 a6, σ5 = mx_al σ4 (.inr (1, ((40 : Int)).toNat, fun _ => mI 0)) ((40 : Int)).toNat → a6 = sN σ4 → ∃ (fs : List mx_V), sH σ5 (l0) = some (.inl (1, fs)) ∧ 1 < fs.length ∧ sB σ5 ≤ l0 ∧ ∀ σ8, σ8 = mx_wr σ5 (l0) (.inl (1, fs.set 1 (mR a6))) → 0 ≤ (41 : Int) ∧ 0 ≤ (41 : Int) ∧ (41 : Int) ≤ 1000 ∧ (41 : Int) ≤ 1000 ∧ sK σ8 + (1 + ((41 : Int)).toNat) ≤ kb ∧ sW σ8 + (((41 : Int)).toNat + ((41 : Int)).toNat * ((41 : Int)).toNat) ≤ wb ∧ ∀ σ9 a10, σ9 = mx_alm σ8 (1 + ((41 : Int)).toNat) (((41 : Int)).toNat + ((41 : Int)).toNat * ((41 : Int)).toNat) → a10 = sN σ8 → ∃ (fs : List mx_V), sH σ9 (l0) = some (.inl (1, fs)) ∧ 2 < fs.length ∧ sB σ9 ≤ l0 ∧ ∀ σ12, σ12 = mx_wr σ9 (l0) (.inl (1, fs.set 2 (mR a10))) → Q (.inl (none, σ12))) : mx_J Y1_init kb wb 0 [some (mR l0)] [] σ Q := by
  refine mj_aload_n (k := 0) dX1_init_0 rfl rfl ?_
  refine mj_objInit (rest := []) dX1_init_1 w_204 w_47 w_objcode (by decide) (Nat.le_of_ble_eq_true rfl) ?_
  refine mj_aload_n (k := 0) dX1_init_4 rfl rfl ?_
  refine mj_bipush (n := 40) dX1_init_5 ⟨by decide, by decide⟩ (by decide) ?_
  obtain ⟨h0a2, h1a2, hka2, hwa2, K⟩ := K
  replace K := K _ _ rfl rfl
  refine mj_newa (kd := 1) dX1_init_7 (by decide) w_62 h0a2 h1a2 hka2 hwa2 ?_
  generalize mx_al σ (.inr (1, ((40 : Int)).toNat, fun _ => mI 0)) ((40 : Int)).toNat = σ1 at K ⊢
  generalize sN σ = a2 at K ⊢
  obtain ⟨fs3, hffs3, hlfs3, hbfs3, K⟩ := K
  replace K := K _ rfl
  refine mj_put dX1_init_9 pf_Y1_init_9 hffs3 hlfs3 hbfs3 ⟨rfl, rfl⟩ ?_
  generalize mx_wr σ1 (l0) (.inl (1, fs3.set 0 (mR a2))) = σ4 at K ⊢
  refine mj_aload_n (k := 0) dX1_init_12 rfl rfl ?_
  refine mj_bipush (n := 40) dX1_init_13 ⟨by decide, by decide⟩ (by decide) ?_
  obtain ⟨h0a6, h1a6, hka6, hwa6, K⟩ := K
  replace K := K _ _ rfl rfl
  refine mj_newa (kd := 1) dX1_init_15 (by decide) w_62 h0a6 h1a6 hka6 hwa6 ?_
  generalize mx_al σ4 (.inr (1, ((40 : Int)).toNat, fun _ => mI 0)) ((40 : Int)).toNat = σ5 at K ⊢
  generalize sN σ4 = a6 at K ⊢
  obtain ⟨fs7, hffs7, hlfs7, hbfs7, K⟩ := K
  replace K := K _ rfl
  refine mj_put dX1_init_17 pf_Y1_init_15 hffs7 hlfs7 hbfs7 ⟨rfl, rfl⟩ ?_
  generalize mx_wr σ5 (l0) (.inl (1, fs7.set 1 (mR a6))) = σ8 at K ⊢
  refine mj_aload_n (k := 0) dX1_init_20 rfl rfl ?_
  refine mj_bipush (n := 41) dX1_init_21 ⟨by decide, by decide⟩ (by decide) ?_
  refine mj_bipush (n := 41) dX1_init_23 ⟨by decide, by decide⟩ (by decide) ?_
  obtain ⟨h0a10, h1a10, h2a10, h3a10, hka10, hwa10, K⟩ := K
  replace K := K _ _ rfl rfl
  refine mj_mna dX1_init_25 w_205 w_94 h0a10 h1a10 h2a10 h3a10 hka10 hwa10 ?_
  generalize mx_alm σ8 (1 + ((41 : Int)).toNat) (((41 : Int)).toNat + ((41 : Int)).toNat * ((41 : Int)).toNat) = σ9 at K ⊢
  generalize sN σ8 = a10 at K ⊢
  obtain ⟨fs11, hffs11, hlfs11, hbfs11, K⟩ := K
  replace K := K _ rfl
  refine mj_put dX1_init_29 pf_Y1_init_20 hffs11 hlfs11 hbfs11 ⟨rfl, rfl⟩ ?_
  generalize mx_wr σ9 (l0) (.inl (1, fs11.set 2 (mR a10))) = σ12 at K ⊢
  exact mj_ret (v := none) ⟨dX1_init_32, rfl⟩ K
theorem B_Y8_init_0 {kb wb : Nat} {σ : mx_S} {Q : mx_R → Prop} {l0 : Nat} (K : 0 ≤ (12 : Int) ∧ (12 : Int) ≤ 134217728 ∧ sK σ + 1 ≤ kb ∧ sW σ + ((12 : Int)).toNat ≤ wb ∧ ∀ σ1 a2, σ1 = mx_al σ (.inr (0, ((12 : Int)).toNat, fun _ => mI 0)) ((12 : Int)).toNat → a2 = sN σ → ∃ (fs : List mx_V), sH σ1 (l0) = some (.inl (8, fs)) ∧ 0 < fs.length ∧ sB σ1 ≤ l0 ∧ ∀ σ4, σ4 = mx_wr σ1 (l0) (.inl (8, fs.set 0 (mR a2))) → 0 ≤ (12 : Int) ∧ (12 : Int) ≤ 134217728 ∧ sK σ4 + 1 ≤ kb ∧ sW σ4 + ((12 : Int)).toNat ≤ wb ∧ ∀ σ5 a6, σ5 = mx_al σ4 (.inr (0, ((12 : Int)).toNat, fun _ => mI 0)) ((12 : Int)).toNat → a6 = sN σ4 → ∃ (fs : List mx_V), sH σ5 (l0) = some (.inl (8, fs)) ∧ 1 < fs.length ∧ sB σ5 ≤ l0 ∧ ∀ σ8, σ8 = mx_wr σ5 (l0) (.inl (8, fs.set 1 (mR a6))) → 0 ≤ (480 : Int) ∧ (480 : Int) ≤ 134217728 ∧ sK σ8 + 1 ≤ kb ∧ sW σ8 + ((480 : Int)).toNat ≤ wb ∧ ∀ σ9 a10, σ9 = mx_al σ8 (.inr (1, ((480 : Int)).toNat, fun _ => mI 0)) ((480 : Int)).toNat → a10 = sN σ8 → ∃ (fs : List mx_V), sH σ9 (l0) = some (.inl (8, fs)) ∧ 2 < fs.length ∧ sB σ9 ≤ l0 ∧ ∀ σ12, σ12 = mx_wr σ9 (l0) (.inl (8, fs.set 2 (mR a10))) → Q (.inl (none, σ12))) : mx_J Y8_init kb wb 0 [some (mR l0)] [] σ Q := by
  refine mj_aload_n (k := 0) dX8_init_0 rfl rfl ?_
  refine mj_objInit (rest := []) dX8_init_1 w_80 w_47 w_objcode (by decide) (Nat.le_of_ble_eq_true rfl) ?_
  refine mj_aload_n (k := 0) dX8_init_4 rfl rfl ?_
  refine mj_bipush (n := 12) dX8_init_5 ⟨by decide, by decide⟩ (by decide) ?_
  obtain ⟨h0a2, h1a2, hka2, hwa2, K⟩ := K
  replace K := K _ _ rfl rfl
  refine mj_newa (kd := 0) dX8_init_7 (by decide) w_94 h0a2 h1a2 hka2 hwa2 ?_
  generalize mx_al σ (.inr (0, ((12 : Int)).toNat, fun _ => mI 0)) ((12 : Int)).toNat = σ1 at K ⊢
  generalize sN σ = a2 at K ⊢
  obtain ⟨fs3, hffs3, hlfs3, hbfs3, K⟩ := K
  replace K := K _ rfl
  refine mj_put dX8_init_9 pf_Y8_init_9 hffs3 hlfs3 hbfs3 ⟨rfl, rfl⟩ ?_
  generalize mx_wr σ1 (l0) (.inl (8, fs3.set 0 (mR a2))) = σ4 at K ⊢
  refine mj_aload_n (k := 0) dX8_init_12 rfl rfl ?_
  refine mj_bipush (n := 12) dX8_init_13 ⟨by decide, by decide⟩ (by decide) ?_
  obtain ⟨h0a6, h1a6, hka6, hwa6, K⟩ := K
  replace K := K _ _ rfl rfl
  refine mj_newa (kd := 0) dX8_init_15 (by decide) w_94 h0a6 h1a6 hka6 hwa6 ?_
  generalize mx_al σ4 (.inr (0, ((12 : Int)).toNat, fun _ => mI 0)) ((12 : Int)).toNat = σ5 at K ⊢
  generalize sN σ4 = a6 at K ⊢
  obtain ⟨fs7, hffs7, hlfs7, hbfs7, K⟩ := K
  replace K := K _ rfl
  refine mj_put dX8_init_17 pf_Y8_init_15 hffs7 hlfs7 hbfs7 ⟨rfl, rfl⟩ ?_
  generalize mx_wr σ5 (l0) (.inl (8, fs7.set 1 (mR a6))) = σ8 at K ⊢
  refine mj_aload_n (k := 0) dX8_init_20 rfl rfl ?_
  refine mj_sipush (n := 480) dX8_init_21 ⟨by decide, by decide⟩ (by decide) ?_
  obtain ⟨h0a10, h1a10, hka10, hwa10, K⟩ := K
  replace K := K _ _ rfl rfl
  refine mj_newa (kd := 1) dX8_init_24 (by decide) w_62 h0a10 h1a10 hka10 hwa10 ?_
  generalize mx_al σ8 (.inr (1, ((480 : Int)).toNat, fun _ => mI 0)) ((480 : Int)).toNat = σ9 at K ⊢
  generalize sN σ8 = a10 at K ⊢
  obtain ⟨fs11, hffs11, hlfs11, hbfs11, K⟩ := K
  replace K := K _ rfl
  refine mj_put dX8_init_26 pf_Y8_init_18 hffs11 hlfs11 hbfs11 ⟨rfl, rfl⟩ ?_
  generalize mx_wr σ9 (l0) (.inl (8, fs11.set 2 (mR a10))) = σ12 at K ⊢
  exact mj_ret (v := none) ⟨dX8_init_29, rfl⟩ K
theorem B_Y9_init_0 {kb wb : Nat} {σ : mx_S} {Q : mx_R → Prop} {l0 : Nat} (K : sK σ + 1 ≤ kb ∧ sW σ + 4 ≤ wb ∧ ∀ σ1 a2, σ1 = mx_al σ (.inl (8, [mN, mN, mN, mI 0])) 4 → a2 = sN σ → ∃ (σ3 : mx_S), mx_MS Y8_init [mR a2] σ1 (.inl (none, σ3)) ∧ sK σ3 ≤ kb ∧ sW σ3 ≤ wb ∧ ∃ (fs : List mx_V), sH σ3 (l0) = some (.inl (9, fs)) ∧ 0 < fs.length ∧ sB σ3 ≤ l0 ∧ ∀ σ5, σ5 = mx_wr σ3 (l0) (.inl (9, fs.set 0 (mR a2))) → 0 ≤ (480 : Int) ∧ (480 : Int) ≤ 134217728 ∧ sK σ5 + 1 ≤ kb ∧ sW σ5 + ((480 : Int)).toNat ≤ wb ∧ ∀ σ6 a7, σ6 = mx_al σ5 (.inr (0, ((480 : Int)).toNat, fun _ => mI 0)) ((480 : Int)).toNat → a7 = sN σ5 → ∃ (fs : List mx_V), sH σ6 (l0) = some (.inl (9, fs)) ∧ 1 < fs.length ∧ sB σ6 ≤ l0 ∧ ∀ σ9, σ9 = mx_wr σ6 (l0) (.inl (9, fs.set 1 (mR a7))) → 0 ≤ (480 : Int) ∧ (480 : Int) ≤ 134217728 ∧ sK σ9 + 1 ≤ kb ∧ sW σ9 + ((480 : Int)).toNat ≤ wb ∧ ∀ σ10 a11, σ10 = mx_al σ9 (.inr (0, ((480 : Int)).toNat, fun _ => mI 0)) ((480 : Int)).toNat → a11 = sN σ9 → ∃ (fs : List mx_V), sH σ10 (l0) = some (.inl (9, fs)) ∧ 2 < fs.length ∧ sB σ10 ≤ l0 ∧ ∀ σ13, σ13 = mx_wr σ10 (l0) (.inl (9, fs.set 2 (mR a11))) → 0 ≤ (480 : Int) ∧ (480 : Int) ≤ 134217728 ∧ sK σ13 + 1 ≤ kb ∧ sW σ13 + ((480 : Int)).toNat ≤ wb ∧ ∀ σ14 a15, σ14 = mx_al σ13 (.inr (0, ((480 : Int)).toNat, fun _ => mI 0)) ((480 : Int)).toNat → a15 = sN σ13 → ∃ (fs : List mx_V), sH σ14 (l0) = some (.inl (9, fs)) ∧ 3 < fs.length ∧ sB σ14 ≤ l0 ∧ ∀ σ17, σ17 = mx_wr σ14 (l0) (.inl (9, fs.set 3 (mR a15))) → Q (.inl (none, σ17))) : mx_J Y9_init kb wb 0 [some (mR l0)] [] σ Q := by
  refine mj_aload_n (k := 0) dX9_init_0 rfl rfl ?_
  refine mj_objInit (rest := []) dX9_init_1 w_74 w_47 w_objcode (by decide) (Nat.le_of_ble_eq_true rfl) ?_
  refine mj_aload_n (k := 0) dX9_init_4 rfl rfl ?_
  obtain ⟨hka2, hwa2, K⟩ := K
  replace K := K _ _ rfl rfl
  refine mj_new dX9_init_5 nf_Y9_init_9 hka2 hwa2 ?_
  change mx_J _ _ _ _ _ (mR (sN σ) :: _) (mx_al σ (.inl (8, [mN, mN, mN, mI 0])) 4) _
  generalize mx_al σ (.inl (8, [mN, mN, mN, mI 0])) 4 = σ1 at K ⊢
  generalize sN σ = a2 at K ⊢
  refine mj_dup dX9_init_8 rfl ?_
  obtain ⟨σ3, hMσ3, hkσ3, hwσ3, K⟩ := K
  refine mj_callIN (As := []) (rest := [mR a2, mR l0]) (b := a2) dX9_init_9 k_Y9_init_11 rfl (Nat.le_of_ble_eq_true rfl) hMσ3 hkσ3 hwσ3 ?_
  obtain ⟨fs4, hffs4, hlfs4, hbfs4, K⟩ := K
  replace K := K _ rfl
  refine mj_put dX9_init_12 pf_Y9_init_12 hffs4 hlfs4 hbfs4 ⟨rfl, rfl⟩ ?_
  generalize mx_wr σ3 (l0) (.inl (9, fs4.set 0 (mR a2))) = σ5 at K ⊢
  refine mj_aload_n (k := 0) dX9_init_15 rfl rfl ?_
  refine mj_sipush (n := 480) dX9_init_16 ⟨by decide, by decide⟩ (by decide) ?_
  obtain ⟨h0a7, h1a7, hka7, hwa7, K⟩ := K
  replace K := K _ _ rfl rfl
  refine mj_newa (kd := 0) dX9_init_19 (by decide) w_94 h0a7 h1a7 hka7 hwa7 ?_
  generalize mx_al σ5 (.inr (0, ((480 : Int)).toNat, fun _ => mI 0)) ((480 : Int)).toNat = σ6 at K ⊢
  generalize sN σ5 = a7 at K ⊢
  obtain ⟨fs8, hffs8, hlfs8, hbfs8, K⟩ := K
  replace K := K _ rfl
  refine mj_put dX9_init_21 pf_Y9_init_18 hffs8 hlfs8 hbfs8 ⟨rfl, rfl⟩ ?_
  generalize mx_wr σ6 (l0) (.inl (9, fs8.set 1 (mR a7))) = σ9 at K ⊢
  refine mj_aload_n (k := 0) dX9_init_24 rfl rfl ?_
  refine mj_sipush (n := 480) dX9_init_25 ⟨by decide, by decide⟩ (by decide) ?_
  obtain ⟨h0a11, h1a11, hka11, hwa11, K⟩ := K
  replace K := K _ _ rfl rfl
  refine mj_newa (kd := 0) dX9_init_28 (by decide) w_94 h0a11 h1a11 hka11 hwa11 ?_
  generalize mx_al σ9 (.inr (0, ((480 : Int)).toNat, fun _ => mI 0)) ((480 : Int)).toNat = σ10 at K ⊢
  generalize sN σ9 = a11 at K ⊢
  obtain ⟨fs12, hffs12, hlfs12, hbfs12, K⟩ := K
  replace K := K _ rfl
  refine mj_put dX9_init_30 pf_Y9_init_22 hffs12 hlfs12 hbfs12 ⟨rfl, rfl⟩ ?_
  generalize mx_wr σ10 (l0) (.inl (9, fs12.set 2 (mR a11))) = σ13 at K ⊢
  refine mj_aload_n (k := 0) dX9_init_33 rfl rfl ?_
  refine mj_sipush (n := 480) dX9_init_34 ⟨by decide, by decide⟩ (by decide) ?_
  obtain ⟨h0a15, h1a15, hka15, hwa15, K⟩ := K
  replace K := K _ _ rfl rfl
  refine mj_newa (kd := 0) dX9_init_37 (by decide) w_94 h0a15 h1a15 hka15 hwa15 ?_
  generalize mx_al σ13 (.inr (0, ((480 : Int)).toNat, fun _ => mI 0)) ((480 : Int)).toNat = σ14 at K ⊢
  generalize sN σ13 = a15 at K ⊢
  obtain ⟨fs16, hffs16, hlfs16, hbfs16, K⟩ := K
  replace K := K _ rfl
  refine mj_put dX9_init_39 pf_Y9_init_25 hffs16 hlfs16 hbfs16 ⟨rfl, rfl⟩ ?_
  generalize mx_wr σ14 (l0) (.inl (9, fs16.set 3 (mR a15))) = σ17 at K ⊢
  exact mj_ret (v := none) ⟨dX9_init_42, rfl⟩ K
theorem B_YJ7_fill_53178_0 {kb wb : Nat} {σ : mx_S} {Q : mx_R → Prop} {l0 : Nat} {l1 : Int} (K : ∃ (kd n1 : Nat) (f : Nat → mx_V), sH σ (l0) = some (.inr (kd, n1, f)) ∧ mx_J YJ7_fill_53178 kb wb 5 [some (mR l0), some (mI l1), some (mI ((0 : Int))), some (mI ((n1 : Int)))] [] σ Q) : mx_J YJ7_fill_53178 kb wb 0 [some (mR l0), some (mI l1), none, none] [] σ Q := by
  refine mj_iconst dJ7_fill_53178_0 ⟨by decide, by decide⟩ ?_
  refine mj_istore_n (k := 2) (ls' := [some (mR l0), some (mI l1), some (mI ((0 : Int))), none]) dJ7_fill_53178_1 rfl (by decide) rfl ?_
  refine mj_aload_n (k := 0) dJ7_fill_53178_2 rfl rfl ?_
  obtain ⟨kd, n1, fn1, hfn1, K⟩ := K
  refine mj_alen dJ7_fill_53178_3 hfn1 ?_
  refine mj_istore_n (k := 3) (ls' := [some (mR l0), some (mI l1), some (mI ((0 : Int))), some (mI ((n1 : Int)))]) dJ7_fill_53178_4 rfl (by decide) rfl ?_
  exact K
theorem B_YJ7_fill_53178_5 {kb wb : Nat} {σ : mx_S} {Q : mx_R → Prop} {l0 : Nat} {l1 : Int} {l2 : Int} {l3 : Int} (K : (l3 ≤ l2 → Q (.inl (none, σ))) ∧ (¬ (l3 ≤ l2) → ∃ (n1 : Nat) (f : Nat → mx_V), sH σ (l0) = some (.inr (0, n1, f)) ∧ sB σ ≤ l0 ∧ 0 ≤ l2 ∧ l2 < (n1 : Int) ∧ ∀ σ2, σ2 = mx_wr σ (l0) (.inr (0, n1, upV f (l2).toNat (mI l1))) → mx_J YJ7_fill_53178 kb wb 5 [some (mR l0), some (mI l1), some (mI (mx_w (l2 + (1 : Int)))), some (mI l3)] [] σ2 Q)) : mx_J YJ7_fill_53178 kb wb 5 [some (mR l0), some (mI l1), some (mI l2), some (mI l3)] [] σ Q := by
  refine mj_iload_n (k := 2) dJ7_fill_53178_5 rfl rfl ?_
  refine mj_iload_n (k := 3) dJ7_fill_53178_6 rfl rfl ?_
  refine mj_icmp_ge (tgt := 20) dJ7_fill_53178_7 (by decide) ⟨fun h => ?_, fun h => ?_⟩
  · replace K := K.1 h
    exact mj_ret (v := none) ⟨dJ7_fill_53178_20, rfl⟩ K
  · replace K := K.2 h
    refine mj_aload_n (k := 0) dJ7_fill_53178_10 rfl rfl ?_
    refine mj_iload_n (k := 2) dJ7_fill_53178_11 rfl rfl ?_
    refine mj_iload_n (k := 1) dJ7_fill_53178_12 rfl rfl ?_
    obtain ⟨n1, fn1, hfn1, hbn1, h0n1, h1n1, K⟩ := K
    replace K := K _ rfl
    refine mj_iast dJ7_fill_53178_13 hfn1 hbn1 h0n1 h1n1 ?_
    generalize mx_wr σ (l0) (.inr (0, n1, upV fn1 (l2).toNat (mI l1))) = σ2 at K ⊢
    refine mj_iinc (k := 2) (ls' := [some (mR l0), some (mI l1), some (mI (mx_w (l2 + (1 : Int)))), some (mI l3)]) dJ7_fill_53178_14 rfl (by decide) rfl ?_
    refine mj_goto (tgt := 5) dJ7_fill_53178_17 (by decide) ?_
    exact K
theorem B_Y7_init_0 {kb wb : Nat} {σ : mx_S} {Q : mx_R → Prop} {l0 : Nat} (K : 0 ≤ (512 : Int) ∧ (512 : Int) ≤ 134217728 ∧ sK σ + 1 ≤ kb ∧ sW σ + ((512 : Int)).toNat ≤ wb ∧ ∀ σ1 a2, σ1 = mx_al σ (.inr (0, ((512 : Int)).toNat, fun _ => mI 0)) ((512 : Int)).toNat → a2 = sN σ → ∃ (fs : List mx_V), sH σ1 (l0) = some (.inl (7, fs)) ∧ 0 < fs.length ∧ sB σ1 ≤ l0 ∧ ∀ σ4, σ4 = mx_wr σ1 (l0) (.inl (7, fs.set 0 (mR a2))) → 0 ≤ (512 : Int) ∧ (512 : Int) ≤ 134217728 ∧ sK σ4 + 1 ≤ kb ∧ sW σ4 + ((512 : Int)).toNat ≤ wb ∧ ∀ σ5 a6, σ5 = mx_al σ4 (.inr (0, ((512 : Int)).toNat, fun _ => mI 0)) ((512 : Int)).toNat → a6 = sN σ4 → ∃ (fs : List mx_V), sH σ5 (l0) = some (.inl (7, fs)) ∧ 1 < fs.length ∧ sB σ5 ≤ l0 ∧ ∀ σ8, σ8 = mx_wr σ5 (l0) (.inl (7, fs.set 1 (mR a6))) → 0 ≤ (512 : Int) ∧ (512 : Int) ≤ 134217728 ∧ sK σ8 + 1 ≤ kb ∧ sW σ8 + ((512 : Int)).toNat ≤ wb ∧ ∀ σ9 a10, σ9 = mx_al σ8 (.inr (0, ((512 : Int)).toNat, fun _ => mI 0)) ((512 : Int)).toNat → a10 = sN σ8 → ∃ (fs : List mx_V), sH σ9 (l0) = some (.inl (7, fs)) ∧ 2 < fs.length ∧ sB σ9 ≤ l0 ∧ ∀ σ12, σ12 = mx_wr σ9 (l0) (.inl (7, fs.set 2 (mR a10))) → 0 ≤ (40 : Int) ∧ (40 : Int) ≤ 134217728 ∧ sK σ12 + 1 ≤ kb ∧ sW σ12 + ((40 : Int)).toNat ≤ wb ∧ ∀ σ13 a14, σ13 = mx_al σ12 (.inr (0, ((40 : Int)).toNat, fun _ => mI 0)) ((40 : Int)).toNat → a14 = sN σ12 → ∃ (fs : List mx_V), sH σ13 (l0) = some (.inl (7, fs)) ∧ 3 < fs.length ∧ sB σ13 ≤ l0 ∧ ∀ σ16, σ16 = mx_wr σ13 (l0) (.inl (7, fs.set 3 (mR a14))) → ∃ (fs : List mx_V), sH σ16 (l0) = some (.inl (7, fs)) ∧ ∃ x18, fs[3]? = some (mR x18) ∧ ∃ (σ19 : mx_S), mx_MS YJ7_fill_53178 [mR x18, mI ((-1 : Int))] σ16 (.inl (none, σ19)) ∧ sK σ19 ≤ kb ∧ sW σ19 ≤ wb ∧ Q (.inl (none, σ19))) : mx_J Y7_init kb wb 0 [some (mR l0)] [] σ Q := by
  refine mj_aload_n (k := 0) dX7_init_0 rfl rfl ?_
  refine mj_objInit (rest := []) dX7_init_1 w_120 w_47 w_objcode (by decide) (Nat.le_of_ble_eq_true rfl) ?_
  refine mj_aload_n (k := 0) dX7_init_4 rfl rfl ?_
  refine mj_sipush (n := 512) dX7_init_5 ⟨by decide, by decide⟩ (by decide) ?_
  obtain ⟨h0a2, h1a2, hka2, hwa2, K⟩ := K
  replace K := K _ _ rfl rfl
  refine mj_newa (kd := 0) dX7_init_8 (by decide) w_94 h0a2 h1a2 hka2 hwa2 ?_
  generalize mx_al σ (.inr (0, ((512 : Int)).toNat, fun _ => mI 0)) ((512 : Int)).toNat = σ1 at K ⊢
  generalize sN σ = a2 at K ⊢
  obtain ⟨fs3, hffs3, hlfs3, hbfs3, K⟩ := K
  replace K := K _ rfl
  refine mj_put dX7_init_10 pf_Y7_init_9 hffs3 hlfs3 hbfs3 ⟨rfl, rfl⟩ ?_
  generalize mx_wr σ1 (l0) (.inl (7, fs3.set 0 (mR a2))) = σ4 at K ⊢
  refine mj_aload_n (k := 0) dX7_init_13 rfl rfl ?_
  refine mj_sipush (n := 512) dX7_init_14 ⟨by decide, by decide⟩ (by decide) ?_
  obtain ⟨h0a6, h1a6, hka6, hwa6, K⟩ := K
  replace K := K _ _ rfl rfl
  refine mj_newa (kd := 0) dX7_init_17 (by decide) w_94 h0a6 h1a6 hka6 hwa6 ?_
  generalize mx_al σ4 (.inr (0, ((512 : Int)).toNat, fun _ => mI 0)) ((512 : Int)).toNat = σ5 at K ⊢
  generalize sN σ4 = a6 at K ⊢
  obtain ⟨fs7, hffs7, hlfs7, hbfs7, K⟩ := K
  replace K := K _ rfl
  refine mj_put dX7_init_19 pf_Y7_init_15 hffs7 hlfs7 hbfs7 ⟨rfl, rfl⟩ ?_
  generalize mx_wr σ5 (l0) (.inl (7, fs7.set 1 (mR a6))) = σ8 at K ⊢
  refine mj_aload_n (k := 0) dX7_init_22 rfl rfl ?_
  refine mj_sipush (n := 512) dX7_init_23 ⟨by decide, by decide⟩ (by decide) ?_
  obtain ⟨h0a10, h1a10, hka10, hwa10, K⟩ := K
  replace K := K _ _ rfl rfl
  refine mj_newa (kd := 0) dX7_init_26 (by decide) w_94 h0a10 h1a10 hka10 hwa10 ?_
  generalize mx_al σ8 (.inr (0, ((512 : Int)).toNat, fun _ => mI 0)) ((512 : Int)).toNat = σ9 at K ⊢
  generalize sN σ8 = a10 at K ⊢
  obtain ⟨fs11, hffs11, hlfs11, hbfs11, K⟩ := K
  replace K := K _ rfl
  refine mj_put dX7_init_28 pf_Y7_init_18 hffs11 hlfs11 hbfs11 ⟨rfl, rfl⟩ ?_
  generalize mx_wr σ9 (l0) (.inl (7, fs11.set 2 (mR a10))) = σ12 at K ⊢
  refine mj_aload_n (k := 0) dX7_init_31 rfl rfl ?_
  refine mj_bipush (n := 40) dX7_init_32 ⟨by decide, by decide⟩ (by decide) ?_
  obtain ⟨h0a14, h1a14, hka14, hwa14, K⟩ := K
  replace K := K _ _ rfl rfl
  refine mj_newa (kd := 0) dX7_init_34 (by decide) w_94 h0a14 h1a14 hka14 hwa14 ?_
  generalize mx_al σ12 (.inr (0, ((40 : Int)).toNat, fun _ => mI 0)) ((40 : Int)).toNat = σ13 at K ⊢
  generalize sN σ12 = a14 at K ⊢
  obtain ⟨fs15, hffs15, hlfs15, hbfs15, K⟩ := K
  replace K := K _ rfl
  refine mj_put dX7_init_36 pf_Y7_init_21 hffs15 hlfs15 hbfs15 ⟨rfl, rfl⟩ ?_
  generalize mx_wr σ13 (l0) (.inl (7, fs15.set 3 (mR a14))) = σ16 at K ⊢
  refine mj_aload_n (k := 0) dX7_init_39 rfl rfl ?_
  obtain ⟨fs17, hffs17, x18, hxx18, K⟩ := K
  refine mj_get dX7_init_40 lf_Y7_init_21 hffs17 hxx18 ?_
  refine mj_iconst dX7_init_43 ⟨by decide, by decide⟩ ?_
  obtain ⟨σ19, hMσ19, hkσ19, hwσ19, K⟩ := K
  refine mj_callS (As := [mR x18, mI ((-1 : Int))]) (rest := []) dX7_init_44 k_Y7_init_24 rfl (Nat.le_of_ble_eq_true rfl) hMσ19 hkσ19 hwσ19 ?_
  exact mj_ret (v := none) ⟨dX7_init_47, rfl⟩ K
theorem B_Y2_init_0 {kb wb : Nat} {σ : mx_S} {Q : mx_R → Prop} {l0 : Nat} (K : sK σ + 1 ≤ kb ∧ sW σ + 6 ≤ wb ∧ ∀ σ1 a2, σ1 = mx_al σ (.inl (9, [mN, mN, mN, mN, mI 0, mI 0])) 6 → a2 = sN σ → ∃ (σ3 : mx_S), mx_MS Y9_init [mR a2] σ1 (.inl (none, σ3)) ∧ sK σ3 ≤ kb ∧ sW σ3 ≤ wb ∧ ∃ (fs : List mx_V), sH σ3 (l0) = some (.inl (2, fs)) ∧ 0 < fs.length ∧ sB σ3 ≤ l0 ∧ ∀ σ5, σ5 = mx_wr σ3 (l0) (.inl (2, fs.set 0 (mR a2))) → 0 ≤ (6 : Int) ∧ (6 : Int) ≤ 134217728 ∧ sK σ5 + 1 ≤ kb ∧ sW σ5 + ((6 : Int)).toNat ≤ wb ∧ ∀ σ6 a7, σ6 = mx_al σ5 (.inr (5, ((6 : Int)).toNat, fun _ => mN)) ((6 : Int)).toNat → a7 = sN σ5 → ∃ (fs : List mx_V), sH σ6 (l0) = some (.inl (2, fs)) ∧ 1 < fs.length ∧ sB σ6 ≤ l0 ∧ ∀ σ9, σ9 = mx_wr σ6 (l0) (.inl (2, fs.set 1 (mR a7))) → 0 ≤ (6 : Int) ∧ (6 : Int) ≤ 134217728 ∧ sK σ9 + 1 ≤ kb ∧ sW σ9 + ((6 : Int)).toNat ≤ wb ∧ ∀ σ10 a11, σ10 = mx_al σ9 (.inr (0, ((6 : Int)).toNat, fun _ => mI 0)) ((6 : Int)).toNat → a11 = sN σ9 → ∃ (fs : List mx_V), sH σ10 (l0) = some (.inl (2, fs)) ∧ 2 < fs.length ∧ sB σ10 ≤ l0 ∧ ∀ σ13, σ13 = mx_wr σ10 (l0) (.inl (2, fs.set 2 (mR a11))) → sK σ13 + 1 ≤ kb ∧ sW σ13 + 5 ≤ wb ∧ ∀ σ14 a15, σ14 = mx_al σ13 (.inl (7, [mN, mN, mN, mN, mI 0])) 5 → a15 = sN σ13 → ∃ (σ16 : mx_S), mx_MS Y7_init [mR a15] σ14 (.inl (none, σ16)) ∧ sK σ16 ≤ kb ∧ sW σ16 ≤ wb ∧ ∃ (fs : List mx_V), sH σ16 (l0) = some (.inl (2, fs)) ∧ 3 < fs.length ∧ sB σ16 ≤ l0 ∧ ∀ σ18, σ18 = mx_wr σ16 (l0) (.inl (2, fs.set 3 (mR a15))) → sK σ18 + 1 ≤ kb ∧ sW σ18 + 2 ≤ wb ∧ ∀ σ19 a20, σ19 = mx_al σ18 (.inl (0, [mN, mI 0])) 2 → a20 = sN σ18 → ∃ (σ21 : mx_S), mx_MS Y0_init [mR a20] σ19 (.inl (none, σ21)) ∧ sK σ21 ≤ kb ∧ sW σ21 ≤ wb ∧ ∃ (fs : List mx_V), sH σ21 (l0) = some (.inl (2, fs)) ∧ 4 < fs.length ∧ sB σ21 ≤ l0 ∧ ∀ σ23, σ23 = mx_wr σ21 (l0) (.inl (2, fs.set 4 (mR a20))) → mx_J Y2_init kb wb 56 [some (mR l0), some (mI ((0 : Int)))] [] σ23 Q) : mx_J Y2_init kb wb 0 [some (mR l0), none] [] σ Q := by
  refine mj_aload_n (k := 0) dX2_init_0 rfl rfl ?_
  refine mj_objInit (rest := []) dX2_init_1 w_68 w_47 w_objcode (by decide) (Nat.le_of_ble_eq_true rfl) ?_
  refine mj_aload_n (k := 0) dX2_init_4 rfl rfl ?_
  obtain ⟨hka2, hwa2, K⟩ := K
  replace K := K _ _ rfl rfl
  refine mj_new dX2_init_5 nf_Y2_init_9 hka2 hwa2 ?_
  change mx_J _ _ _ _ _ (mR (sN σ) :: _) (mx_al σ (.inl (9, [mN, mN, mN, mN, mI 0, mI 0])) 6) _
  generalize mx_al σ (.inl (9, [mN, mN, mN, mN, mI 0, mI 0])) 6 = σ1 at K ⊢
  generalize sN σ = a2 at K ⊢
  refine mj_dup dX2_init_8 rfl ?_
  obtain ⟨σ3, hMσ3, hkσ3, hwσ3, K⟩ := K
  refine mj_callIN (As := []) (rest := [mR a2, mR l0]) (b := a2) dX2_init_9 k_Y2_init_11 rfl (Nat.le_of_ble_eq_true rfl) hMσ3 hkσ3 hwσ3 ?_
  obtain ⟨fs4, hffs4, hlfs4, hbfs4, K⟩ := K
  replace K := K _ rfl
  refine mj_put dX2_init_12 pf_Y2_init_12 hffs4 hlfs4 hbfs4 ⟨rfl, rfl⟩ ?_
  generalize mx_wr σ3 (l0) (.inl (2, fs4.set 0 (mR a2))) = σ5 at K ⊢
  refine mj_aload_n (k := 0) dX2_init_15 rfl rfl ?_
  refine mj_bipush (n := 6) dX2_init_16 ⟨by decide, by decide⟩ (by decide) ?_
  obtain ⟨h0a7, h1a7, hka7, hwa7, K⟩ := K
  replace K := K _ _ rfl rfl
  refine mj_anew (kd := 5) dX2_init_18 (by decide) w_69 h0a7 h1a7 hka7 hwa7 ?_
  generalize mx_al σ5 (.inr (5, ((6 : Int)).toNat, fun _ => mN)) ((6 : Int)).toNat = σ6 at K ⊢
  generalize sN σ5 = a7 at K ⊢
  obtain ⟨fs8, hffs8, hlfs8, hbfs8, K⟩ := K
  replace K := K _ rfl
  refine mj_put dX2_init_21 pf_Y2_init_18 hffs8 hlfs8 hbfs8 ⟨rfl, rfl⟩ ?_
  generalize mx_wr σ6 (l0) (.inl (2, fs8.set 1 (mR a7))) = σ9 at K ⊢
  refine mj_aload_n (k := 0) dX2_init_24 rfl rfl ?_
  refine mj_bipush (n := 6) dX2_init_25 ⟨by decide, by decide⟩ (by decide) ?_
  obtain ⟨h0a11, h1a11, hka11, hwa11, K⟩ := K
  replace K := K _ _ rfl rfl
  refine mj_newa (kd := 0) dX2_init_27 (by decide) w_94 h0a11 h1a11 hka11 hwa11 ?_
  generalize mx_al σ9 (.inr (0, ((6 : Int)).toNat, fun _ => mI 0)) ((6 : Int)).toNat = σ10 at K ⊢
  generalize sN σ9 = a11 at K ⊢
  obtain ⟨fs12, hffs12, hlfs12, hbfs12, K⟩ := K
  replace K := K _ rfl
  refine mj_put dX2_init_29 pf_Y2_init_22 hffs12 hlfs12 hbfs12 ⟨rfl, rfl⟩ ?_
  generalize mx_wr σ10 (l0) (.inl (2, fs12.set 2 (mR a11))) = σ13 at K ⊢
  refine mj_aload_n (k := 0) dX2_init_32 rfl rfl ?_
  obtain ⟨hka15, hwa15, K⟩ := K
  replace K := K _ _ rfl rfl
  refine mj_new dX2_init_33 nf_Y2_init_26 hka15 hwa15 ?_
  change mx_J _ _ _ _ _ (mR (sN σ13) :: _) (mx_al σ13 (.inl (7, [mN, mN, mN, mN, mI 0])) 5) _
  generalize mx_al σ13 (.inl (7, [mN, mN, mN, mN, mI 0])) 5 = σ14 at K ⊢
  generalize sN σ13 = a15 at K ⊢
  refine mj_dup dX2_init_36 rfl ?_
  obtain ⟨σ16, hMσ16, hkσ16, hwσ16, K⟩ := K
  refine mj_callI (As := []) (rest := [mR a15, mR l0]) (b := a15) dX2_init_37 k_Y2_init_28 rfl (Nat.le_of_ble_eq_true rfl) hMσ16 hkσ16 hwσ16 ?_
  obtain ⟨fs17, hffs17, hlfs17, hbfs17, K⟩ := K
  replace K := K _ rfl
  refine mj_put dX2_init_40 pf_Y2_init_29 hffs17 hlfs17 hbfs17 ⟨rfl, rfl⟩ ?_
  generalize mx_wr σ16 (l0) (.inl (2, fs17.set 3 (mR a15))) = σ18 at K ⊢
  refine mj_aload_n (k := 0) dX2_init_43 rfl rfl ?_
  obtain ⟨hka20, hwa20, K⟩ := K
  replace K := K _ _ rfl rfl
  refine mj_new dX2_init_44 nf_Y2_init_33 hka20 hwa20 ?_
  change mx_J _ _ _ _ _ (mR (sN σ18) :: _) (mx_al σ18 (.inl (0, [mN, mI 0])) 2) _
  generalize mx_al σ18 (.inl (0, [mN, mI 0])) 2 = σ19 at K ⊢
  generalize sN σ18 = a20 at K ⊢
  refine mj_dup dX2_init_47 rfl ?_
  obtain ⟨σ21, hMσ21, hkσ21, hwσ21, K⟩ := K
  refine mj_callI (As := []) (rest := [mR a20, mR l0]) (b := a20) dX2_init_48 k_Y2_init_35 rfl (Nat.le_of_ble_eq_true rfl) hMσ21 hkσ21 hwσ21 ?_
  obtain ⟨fs22, hffs22, hlfs22, hbfs22, K⟩ := K
  replace K := K _ rfl
  refine mj_put dX2_init_51 pf_Y2_init_36 hffs22 hlfs22 hbfs22 ⟨rfl, rfl⟩ ?_
  generalize mx_wr σ21 (l0) (.inl (2, fs22.set 4 (mR a20))) = σ23 at K ⊢
  refine mj_iconst dX2_init_54 ⟨by decide, by decide⟩ ?_
  refine mj_istore_n (k := 1) (ls' := [some (mR l0), some (mI ((0 : Int)))]) dX2_init_55 rfl (by decide) rfl ?_
  exact K
theorem B_Y2_init_56 {kb wb : Nat} {σ : mx_S} {Q : mx_R → Prop} {l0 : Nat} {l1 : Int} (K : ∃ (fs : List mx_V), sH σ (l0) = some (.inl (2, fs)) ∧ ∃ x2, fs[1]? = some (mR x2) ∧ ∃ (kd n3 : Nat) (f : Nat → mx_V), sH σ (x2) = some (.inr (kd, n3, f)) ∧ ((n3 : Int) ≤ l1 → ∃ (fs : List mx_V), sH σ (l0) = some (.inl (2, fs)) ∧ ∃ x5, fs[2]? = some (mR x5) ∧ ∃ (σ6 : mx_S), mx_MS YJ7_fill_53178 [mR x5, mI ((-1 : Int))] σ (.inl (none, σ6)) ∧ sK σ6 ≤ kb ∧ sW σ6 ≤ wb ∧ Q (.inl (none, σ6))) ∧ (¬ ((n3 : Int) ≤ l1) → ∃ (fs : List mx_V), sH σ (l0) = some (.inl (2, fs)) ∧ ∃ x8, fs[1]? = some (mR x8) ∧ sK σ + 1 ≤ kb ∧ sW σ + 6 ≤ wb ∧ ∀ σ9 a10, σ9 = mx_al σ (.inl (9, [mN, mN, mN, mN, mI 0, mI 0])) 6 → a10 = sN σ → ∃ (σ11 : mx_S), mx_MS Y9_init [mR a10] σ9 (.inl (none, σ11)) ∧ sK σ11 ≤ kb ∧ sW σ11 ≤ wb ∧ ∃ (n12 : Nat) (f : Nat → mx_V) (fs : List mx_V), sH σ11 (x8) = some (.inr (5, n12, f)) ∧ sB σ11 ≤ x8 ∧ 0 ≤ l1 ∧ l1 < (n12 : Int) ∧ sH σ11 (a10) = some (.inl (9, fs)) ∧ ∀ σ13, σ13 = mx_wr σ11 (x8) (.inr (5, n12, upV f (l1).toNat (mR a10))) → mx_J Y2_init kb wb 56 [some (mR l0), some (mI (mx_w (l1 + (1 : Int))))] [] σ13 Q)) : mx_J Y2_init kb wb 56 [some (mR l0), some (mI l1)] [] σ Q := by
  refine mj_iload_n (k := 1) dX2_init_56 rfl rfl ?_
  refine mj_aload_n (k := 0) dX2_init_57 rfl rfl ?_
  obtain ⟨fs1, hffs1, x2, hxx2, K⟩ := K
  refine mj_get dX2_init_58 lf_Y2_init_18 hffs1 hxx2 ?_
  obtain ⟨kd, n3, fn3, hfn3, K⟩ := K
  refine mj_alen dX2_init_61 hfn3 ?_
  refine mj_icmp_ge (tgt := 84) dX2_init_62 (by decide) ⟨fun h => ?_, fun h => ?_⟩
  · replace K := K.1 h
    refine mj_aload_n (k := 0) dX2_init_84 rfl rfl ?_
    obtain ⟨fs4, hffs4, x5, hxx5, K⟩ := K
    refine mj_get dX2_init_85 lf_Y2_init_22 hffs4 hxx5 ?_
    refine mj_iconst dX2_init_88 ⟨by decide, by decide⟩ ?_
    obtain ⟨σ6, hMσ6, hkσ6, hwσ6, K⟩ := K
    refine mj_callS (As := [mR x5, mI ((-1 : Int))]) (rest := []) dX2_init_89 k_Y2_init_40 rfl (Nat.le_of_ble_eq_true rfl) hMσ6 hkσ6 hwσ6 ?_
    exact mj_ret (v := none) ⟨dX2_init_92, rfl⟩ K
  · replace K := K.2 h
    refine mj_aload_n (k := 0) dX2_init_65 rfl rfl ?_
    obtain ⟨fs7, hffs7, x8, hxx8, K⟩ := K
    refine mj_get dX2_init_66 lf_Y2_init_18 hffs7 hxx8 ?_
    refine mj_iload_n (k := 1) dX2_init_69 rfl rfl ?_
    obtain ⟨hka10, hwa10, K⟩ := K
    replace K := K _ _ rfl rfl
    refine mj_new dX2_init_70 nf_Y2_init_9 hka10 hwa10 ?_
    change mx_J _ _ _ _ _ (mR (sN σ) :: _) (mx_al σ (.inl (9, [mN, mN, mN, mN, mI 0, mI 0])) 6) _
    generalize mx_al σ (.inl (9, [mN, mN, mN, mN, mI 0, mI 0])) 6 = σ9 at K ⊢
    generalize sN σ = a10 at K ⊢
    refine mj_dup dX2_init_73 rfl ?_
    obtain ⟨σ11, hMσ11, hkσ11, hwσ11, K⟩ := K
    refine mj_callIN (As := []) (rest := [mR a10, mI l1, mR x8]) (b := a10) dX2_init_74 k_Y2_init_11 rfl (Nat.le_of_ble_eq_true rfl) hMσ11 hkσ11 hwσ11 ?_
    obtain ⟨n12, fn12, fs14, hfn12, hbn12, h0n12, h1n12, hvn12, K⟩ := K
    replace K := K _ rfl
    refine mj_aast dX2_init_77 hfn12 hbn12 h0n12 h1n12 hvn12 (by decide) ?_
    generalize mx_wr σ11 (x8) (.inr (5, n12, upV fn12 (l1).toNat (mR a10))) = σ13 at K ⊢
    refine mj_iinc (k := 1) (ls' := [some (mR l0), some (mI (mx_w (l1 + (1 : Int))))]) dX2_init_78 rfl (by decide) rfl ?_
    refine mj_goto (tgt := 56) dX2_init_81 (by decide) ?_
    exact K
theorem B_Y2_present_0 {kb wb : Nat} {σ : mx_S} {Q : mx_R → Prop} {l0 : Nat} (K : ∃ (fs : List mx_V), sH σ (l0) = some (.inl (2, fs)) ∧ ∃ x2, fs[0]? = some (mR x2) ∧ Q (.inl (some (mR x2), σ))) : mx_J Y2_present kb wb 0 [some (mR l0)] [] σ Q := by
  refine mj_aload_n (k := 0) dX2_present_0 rfl rfl ?_
  obtain ⟨fs1, hffs1, x2, hxx2, K⟩ := K
  refine mj_get dX2_present_1 lf_Y2_present_12 hffs1 hxx2 ?_
  exact mj_ret (v := some (mR x2)) ⟨dX2_present_4, _, rfl, Or.inl ⟨_, rfl⟩⟩ K
theorem B_Y2_shelfOf_0 {kb wb : Nat} {σ : mx_S} {Q : mx_R → Prop} {l0 : Nat} {l1 : Int} (K : mx_J Y2_shelfOf kb wb 2 [some (mR l0), some (mI l1), some (mI ((0 : Int)))] [] σ Q) : mx_J Y2_shelfOf kb wb 0 [some (mR l0), some (mI l1), none] [] σ Q := by
  refine mj_iconst dX2_shelfOf_0 ⟨by decide, by decide⟩ ?_
  refine mj_istore_n (k := 2) (ls' := [some (mR l0), some (mI l1), some (mI ((0 : Int)))]) dX2_shelfOf_1 rfl (by decide) rfl ?_
  exact K
theorem B_Y2_shelfOf_2 {kb wb : Nat} {σ : mx_S} {Q : mx_R → Prop} {l0 : Nat} {l1 : Int} {l2 : Int} (K : ∃ (fs : List mx_V), sH σ (l0) = some (.inl (2, fs)) ∧ ∃ x2, fs[2]? = some (mR x2) ∧ ∃ (kd n3 : Nat) (f : Nat → mx_V), sH σ (x2) = some (.inr (kd, n3, f)) ∧ ((n3 : Int) ≤ l2 → Q (.inl (some (mI ((-1 : Int))), σ))) ∧ (¬ ((n3 : Int) ≤ l2) → ∃ (fs : List mx_V), sH σ (l0) = some (.inl (2, fs)) ∧ ∃ x5, fs[2]? = some (mR x5) ∧ ∃ (n6 : Nat) (f : Nat → mx_V), sH σ (x5) = some (.inr (0, n6, f)) ∧ 0 ≤ l2 ∧ l2 < (n6 : Int) ∧ ∃ x7, f (l2).toNat = mI x7 ∧ (¬ x7 = l1 → mx_J Y2_shelfOf kb wb 28 [some (mR l0), some (mI l1), some (mI l2)] [] σ Q) ∧ (¬ (¬ x7 = l1) → (l1 = (-1 : Int) → mx_J Y2_shelfOf kb wb 28 [some (mR l0), some (mI l1), some (mI l2)] [] σ Q) ∧ (¬ (l1 = (-1 : Int)) → Q (.inl (some (mI l2), σ)))))) : mx_J Y2_shelfOf kb wb 2 [some (mR l0), some (mI l1), some (mI l2)] [] σ Q := by
  refine mj_iload_n (k := 2) dX2_shelfOf_2 rfl rfl ?_
  refine mj_aload_n (k := 0) dX2_shelfOf_3 rfl rfl ?_
  obtain ⟨fs1, hffs1, x2, hxx2, K⟩ := K
  refine mj_get dX2_shelfOf_4 lf_Y2_shelfOf_22 hffs1 hxx2 ?_
  obtain ⟨kd, n3, fn3, hfn3, K⟩ := K
  refine mj_alen dX2_shelfOf_7 hfn3 ?_
  refine mj_icmp_ge (tgt := 34) dX2_shelfOf_8 (by decide) ⟨fun h => ?_, fun h => ?_⟩
  · replace K := K.1 h
    refine mj_iconst dX2_shelfOf_34 ⟨by decide, by decide⟩ ?_
    exact mj_ret (v := some (mI ((-1 : Int)))) ⟨dX2_shelfOf_35, .int, rfl, rfl⟩ K
  · replace K := K.2 h
    refine mj_aload_n (k := 0) dX2_shelfOf_11 rfl rfl ?_
    obtain ⟨fs4, hffs4, x5, hxx5, K⟩ := K
    refine mj_get dX2_shelfOf_12 lf_Y2_shelfOf_22 hffs4 hxx5 ?_
    refine mj_iload_n (k := 2) dX2_shelfOf_15 rfl rfl ?_
    obtain ⟨n6, fn6, hfn6, h0n6, h1n6, x7, hxx7, K⟩ := K
    refine mj_iald dX2_shelfOf_16 hfn6 h0n6 h1n6 ?_
    rw [hxx7]
    refine mj_iload_n (k := 1) dX2_shelfOf_17 rfl rfl ?_
    refine mj_icmp_ne (tgt := 28) dX2_shelfOf_18 (by decide) ⟨fun h => ?_, fun h => ?_⟩
    · replace K := K.1 h
      exact K
    · replace K := K.2 h
      refine mj_iload_n (k := 1) dX2_shelfOf_21 rfl rfl ?_
      refine mj_iconst dX2_shelfOf_22 ⟨by decide, by decide⟩ ?_
      refine mj_icmp_eq (tgt := 28) dX2_shelfOf_23 (by decide) ⟨fun h => ?_, fun h => ?_⟩
      · replace K := K.1 h
        exact K
      · replace K := K.2 h
        refine mj_iload_n (k := 2) dX2_shelfOf_26 rfl rfl ?_
        exact mj_ret (v := some (mI l2)) ⟨dX2_shelfOf_27, .int, rfl, rfl⟩ K
theorem B_Y2_shelfOf_28 {kb wb : Nat} {σ : mx_S} {Q : mx_R → Prop} {l0 : Nat} {l1 : Int} {l2 : Int} (K : mx_J Y2_shelfOf kb wb 2 [some (mR l0), some (mI l1), some (mI (mx_w (l2 + (1 : Int))))] [] σ Q) : mx_J Y2_shelfOf kb wb 28 [some (mR l0), some (mI l1), some (mI l2)] [] σ Q := by
  refine mj_iinc (k := 2) (ls' := [some (mR l0), some (mI l1), some (mI (mx_w (l2 + (1 : Int))))]) dX2_shelfOf_28 rfl (by decide) rfl ?_
  refine mj_goto (tgt := 2) dX2_shelfOf_31 (by decide) ?_
  exact K
theorem B_Y2_shelf_0 {kb wb : Nat} {σ : mx_S} {Q : mx_R → Prop} {l0 : Nat} {l1 : Int} (K : (l1 < (0 : Int) → Q (.inl (some (mN), σ))) ∧ (¬ (l1 < (0 : Int)) → ∃ (fs : List mx_V), sH σ (l0) = some (.inl (2, fs)) ∧ ∃ x2, fs[1]? = some (mR x2) ∧ ∃ (kd n3 : Nat) (f : Nat → mx_V), sH σ (x2) = some (.inr (kd, n3, f)) ∧ ((n3 : Int) ≤ l1 → Q (.inl (some (mN), σ))) ∧ (¬ ((n3 : Int) ≤ l1) → ∃ (fs : List mx_V), sH σ (l0) = some (.inl (2, fs)) ∧ ∃ x5, fs[1]? = some (mR x5) ∧ ∃ (kd n6 : Nat) (f : Nat → mx_V), sH σ (x5) = some (.inr (kd, n6, f)) ∧ 2 ≤ kd ∧ 0 ≤ l1 ∧ l1 < (n6 : Int) ∧ ∃ x7, f (l1).toNat = mR x7 ∧ Q (.inl (some (mR x7), σ))))) : mx_J Y2_shelf kb wb 0 [some (mR l0), some (mI l1)] [] σ Q := by
  refine mj_iload_n (k := 1) dX2_shelf_0 rfl rfl ?_
  refine mj_if_lt (tgt := 22) dX2_shelf_1 (by decide) ⟨fun h => ?_, fun h => ?_⟩
  · replace K := K.1 h
    refine mj_null dX2_shelf_22 ?_
    exact mj_ret (v := some (mN)) ⟨dX2_shelf_23, _, rfl, Or.inl ⟨_, rfl⟩⟩ K
  · replace K := K.2 h
    refine mj_iload_n (k := 1) dX2_shelf_4 rfl rfl ?_
    refine mj_aload_n (k := 0) dX2_shelf_5 rfl rfl ?_
    obtain ⟨fs1, hffs1, x2, hxx2, K⟩ := K
    refine mj_get dX2_shelf_6 lf_Y2_shelf_18 hffs1 hxx2 ?_
    obtain ⟨kd, n3, fn3, hfn3, K⟩ := K
    refine mj_alen dX2_shelf_9 hfn3 ?_
    refine mj_icmp_ge (tgt := 22) dX2_shelf_10 (by decide) ⟨fun h => ?_, fun h => ?_⟩
    · replace K := K.1 h
      refine mj_null dX2_shelf_22 ?_
      exact mj_ret (v := some (mN)) ⟨dX2_shelf_23, _, rfl, Or.inl ⟨_, rfl⟩⟩ K
    · replace K := K.2 h
      refine mj_aload_n (k := 0) dX2_shelf_13 rfl rfl ?_
      obtain ⟨fs4, hffs4, x5, hxx5, K⟩ := K
      refine mj_get dX2_shelf_14 lf_Y2_shelf_18 hffs4 hxx5 ?_
      refine mj_iload_n (k := 1) dX2_shelf_17 rfl rfl ?_
      obtain ⟨kd, n6, fn6, hfn6, hrn6, h0n6, h1n6, x7, hxx7, K⟩ := K
      refine mj_aald dX2_shelf_18 hfn6 hrn6 h0n6 h1n6 ?_
      rw [hxx7]
      refine mj_goto (tgt := 23) dX2_shelf_19 (by decide) ?_
      exact mj_ret (v := some (mR x7)) ⟨dX2_shelf_23, _, rfl, Or.inl ⟨_, rfl⟩⟩ K
theorem B_Y2_viewOf_0 {kb wb : Nat} {σ : mx_S} {Q : mx_R → Prop} {l0 : Nat} {l1 : Int} (K : (¬ l1 = (-1 : Int) → ∃ (fs : List mx_V), sH σ (l0) = some (.inl (2, fs)) ∧ ∃ (r2 : Int) (σ1 : mx_S), mx_MS Y2_shelfOf [mR l0, mI l1] σ (.inl (some (mI r2), σ1)) ∧ sK σ1 ≤ kb ∧ sW σ1 ≤ wb ∧ ∃ (fs : List mx_V), sH σ1 (l0) = some (.inl (2, fs)) ∧ ∃ (r5 : Option Nat) (σ4 : mx_S), mx_MS Y2_shelf [mR l0, mI r2] σ1 (.inl (some (Sum.inr (Sum.inl r5)), σ4)) ∧ sK σ4 ≤ kb ∧ sW σ4 ≤ wb ∧ Q (.inl (some (Sum.inr (Sum.inl r5)), σ4))) ∧ (¬ (¬ l1 = (-1 : Int)) → ∃ (fs : List mx_V), sH σ (l0) = some (.inl (2, fs)) ∧ ∃ x8, fs[0]? = some (mR x8) ∧ Q (.inl (some (mR x8), σ)))) : mx_J Y2_viewOf kb wb 0 [some (mR l0), some (mI l1)] [] σ Q := by
  refine mj_iload_n (k := 1) dX2_viewOf_0 rfl rfl ?_
  refine mj_iconst dX2_viewOf_1 ⟨by decide, by decide⟩ ?_
  refine mj_icmp_ne (tgt := 12) dX2_viewOf_2 (by decide) ⟨fun h => ?_, fun h => ?_⟩
  · replace K := K.1 h
    refine mj_aload_n (k := 0) dX2_viewOf_12 rfl rfl ?_
    refine mj_aload_n (k := 0) dX2_viewOf_13 rfl rfl ?_
    refine mj_iload_n (k := 1) dX2_viewOf_14 rfl rfl ?_
    obtain ⟨fs3, hbfs3, K⟩ := K
    obtain ⟨r2, σ1, hMσ1, hkσ1, hwσ1, K⟩ := K
    refine mj_callV (As := [mI l1]) (rest := [mR l0]) (b := l0) dX2_viewOf_15 k_Y2_viewOf_46 rfl hbfs3 rfl (Nat.le_of_ble_eq_true rfl) hMσ1 hkσ1 hwσ1 ?_
    obtain ⟨fs6, hbfs6, K⟩ := K
    obtain ⟨r5, σ4, hMσ4, hkσ4, hwσ4, K⟩ := K
    refine mj_callV (As := [mI r2]) (rest := []) (b := l0) dX2_viewOf_18 k_Y2_viewOf_50 rfl hbfs6 rfl (Nat.le_of_ble_eq_true rfl) hMσ4 hkσ4 hwσ4 ?_
    exact mj_ret (v := some (Sum.inr (Sum.inl r5))) ⟨dX2_viewOf_21, _, rfl, Or.inl ⟨_, rfl⟩⟩ K
  · replace K := K.2 h
    refine mj_aload_n (k := 0) dX2_viewOf_5 rfl rfl ?_
    obtain ⟨fs7, hffs7, x8, hxx8, K⟩ := K
    refine mj_get dX2_viewOf_6 lf_Y2_viewOf_12 hffs7 hxx8 ?_
    refine mj_goto (tgt := 21) dX2_viewOf_9 (by decide) ?_
    exact mj_ret (v := some (mR x8)) ⟨dX2_viewOf_21, _, rfl, Or.inl ⟨_, rfl⟩⟩ K
theorem B_Y9_texts_0 {kb wb : Nat} {σ : mx_S} {Q : mx_R → Prop} {l0 : Nat} (K : ∃ (fs : List mx_V), sH σ (l0) = some (.inl (9, fs)) ∧ ∃ x2, fs[0]? = some (mR x2) ∧ Q (.inl (some (mR x2), σ))) : mx_J Y9_texts kb wb 0 [some (mR l0)] [] σ Q := by
  refine mj_aload_n (k := 0) dX9_texts_0 rfl rfl ?_
  obtain ⟨fs1, hffs1, x2, hxx2, K⟩ := K
  refine mj_get dX9_texts_1 lf_Y9_texts_12 hffs1 hxx2 ?_
  exact mj_ret (v := some (mR x2)) ⟨dX9_texts_4, _, rfl, Or.inl ⟨_, rfl⟩⟩ K
theorem B_Y8_many_0 {kb wb : Nat} {σ : mx_S} {Q : mx_R → Prop} {l0 : Nat} (K : ∃ (fs : List mx_V), sH σ (l0) = some (.inl (8, fs)) ∧ ∃ x2, fs[3]? = some (mI x2) ∧ Q (.inl (some (mI x2), σ))) : mx_J Y8_many kb wb 0 [some (mR l0)] [] σ Q := by
  refine mj_aload_n (k := 0) dX8_many_0 rfl rfl ?_
  obtain ⟨fs1, hffs1, x2, hxx2, K⟩ := K
  refine mj_get dX8_many_1 lf_Y8_many_22 hffs1 hxx2 ?_
  exact mj_ret (v := some (mI x2)) ⟨dX8_many_4, .int, rfl, rfl⟩ K
theorem B_Y2_hasRoom_0 {kb wb : Nat} {σ : mx_S} {Q : mx_R → Prop} {l0 : Nat} (K : ∃ (fs : List mx_V), sH σ (l0) = some (.inl (2, fs)) ∧ ∃ x2, fs[0]? = some (mR x2) ∧ ∃ (fs : List mx_V), sH σ (x2) = some (.inl (9, fs)) ∧ ∃ (r4 : Nat) (σ3 : mx_S), mx_MS Y9_texts [mR x2] σ (.inl (some (mR r4), σ3)) ∧ sK σ3 ≤ kb ∧ sW σ3 ≤ wb ∧ ∃ (fs : List mx_V), sH σ3 (r4) = some (.inl (8, fs)) ∧ ∃ (r7 : Int) (σ6 : mx_S), mx_MS Y8_many [mR r4] σ3 (.inl (some (mI r7), σ6)) ∧ sK σ6 ≤ kb ∧ sW σ6 ≤ wb ∧ ((12 : Int) ≤ r7 → Q (.inl (some (mI ((0 : Int))), σ6))) ∧ (¬ ((12 : Int) ≤ r7) → ∃ (fs : List mx_V), sH σ6 (l0) = some (.inl (2, fs)) ∧ ∃ x10, fs[5]? = some (mI x10) ∧ ((40 : Int) ≤ x10 → Q (.inl (some (mI ((0 : Int))), σ6))) ∧ (¬ ((40 : Int) ≤ x10) → Q (.inl (some (mI ((1 : Int))), σ6))))) : mx_J Y2_hasRoom kb wb 0 [some (mR l0)] [] σ Q := by
  refine mj_aload_n (k := 0) dX2_hasRoom_0 rfl rfl ?_
  obtain ⟨fs1, hffs1, x2, hxx2, K⟩ := K
  refine mj_get dX2_hasRoom_1 lf_Y2_hasRoom_12 hffs1 hxx2 ?_
  obtain ⟨fs5, hbfs5, K⟩ := K
  obtain ⟨r4, σ3, hMσ3, hkσ3, hwσ3, K⟩ := K
  refine mj_callV (As := []) (rest := []) (b := x2) dX2_hasRoom_4 k_Y2_hasRoom_54 rfl hbfs5 rfl (Nat.le_of_ble_eq_true rfl) hMσ3 hkσ3 hwσ3 ?_
  obtain ⟨fs8, hbfs8, K⟩ := K
  obtain ⟨r7, σ6, hMσ6, hkσ6, hwσ6, K⟩ := K
  refine mj_callV (As := []) (rest := []) (b := r4) dX2_hasRoom_7 k_Y2_hasRoom_58 rfl hbfs8 rfl (Nat.le_of_ble_eq_true rfl) hMσ6 hkσ6 hwσ6 ?_
  refine mj_bipush (n := 12) dX2_hasRoom_10 ⟨by decide, by decide⟩ (by decide) ?_
  refine mj_icmp_ge (tgt := 28) dX2_hasRoom_12 (by decide) ⟨fun h => ?_, fun h => ?_⟩
  · replace K := K.1 h
    refine mj_iconst dX2_hasRoom_28 ⟨by decide, by decide⟩ ?_
    exact mj_ret (v := some (mI ((0 : Int)))) ⟨dX2_hasRoom_29, .boolean, rfl, by decide⟩ K
  · replace K := K.2 h
    refine mj_aload_n (k := 0) dX2_hasRoom_15 rfl rfl ?_
    obtain ⟨fs9, hffs9, x10, hxx10, K⟩ := K
    refine mj_get dX2_hasRoom_16 lf_Y2_hasRoom_64 hffs9 hxx10 ?_
    refine mj_bipush (n := 40) dX2_hasRoom_19 ⟨by decide, by decide⟩ (by decide) ?_
    refine mj_icmp_ge (tgt := 28) dX2_hasRoom_21 (by decide) ⟨fun h => ?_, fun h => ?_⟩
    · replace K := K.1 h
      refine mj_iconst dX2_hasRoom_28 ⟨by decide, by decide⟩ ?_
      exact mj_ret (v := some (mI ((0 : Int)))) ⟨dX2_hasRoom_29, .boolean, rfl, by decide⟩ K
    · replace K := K.2 h
      refine mj_iconst dX2_hasRoom_24 ⟨by decide, by decide⟩ ?_
      refine mj_goto (tgt := 29) dX2_hasRoom_25 (by decide) ?_
      exact mj_ret (v := some (mI ((1 : Int)))) ⟨dX2_hasRoom_29, .boolean, rfl, by decide⟩ K
theorem B_Y8_isSlot_0 {kb wb : Nat} {σ : mx_S} {Q : mx_R → Prop} {l0 : Nat} {l1 : Int} (K : (l1 < (0 : Int) → Q (.inl (some (mI ((0 : Int))), σ))) ∧ (¬ (l1 < (0 : Int)) → ∃ (fs : List mx_V), sH σ (l0) = some (.inl (8, fs)) ∧ ∃ x2, fs[3]? = some (mI x2) ∧ (x2 ≤ l1 → Q (.inl (some (mI ((0 : Int))), σ))) ∧ (¬ (x2 ≤ l1) → ((12 : Int) ≤ l1 → Q (.inl (some (mI ((0 : Int))), σ))) ∧ (¬ ((12 : Int) ≤ l1) → Q (.inl (some (mI ((1 : Int))), σ)))))) : mx_J Y8_isSlot kb wb 0 [some (mR l0), some (mI l1)] [] σ Q := by
  refine mj_iload_n (k := 1) dX8_isSlot_0 rfl rfl ?_
  refine mj_if_lt (tgt := 22) dX8_isSlot_1 (by decide) ⟨fun h => ?_, fun h => ?_⟩
  · replace K := K.1 h
    refine mj_iconst dX8_isSlot_22 ⟨by decide, by decide⟩ ?_
    exact mj_ret (v := some (mI ((0 : Int)))) ⟨dX8_isSlot_23, .boolean, rfl, by decide⟩ K
  · replace K := K.2 h
    refine mj_iload_n (k := 1) dX8_isSlot_4 rfl rfl ?_
    refine mj_aload_n (k := 0) dX8_isSlot_5 rfl rfl ?_
    obtain ⟨fs1, hffs1, x2, hxx2, K⟩ := K
    refine mj_get dX8_isSlot_6 lf_Y8_isSlot_22 hffs1 hxx2 ?_
    refine mj_icmp_ge (tgt := 22) dX8_isSlot_9 (by decide) ⟨fun h => ?_, fun h => ?_⟩
    · replace K := K.1 h
      refine mj_iconst dX8_isSlot_22 ⟨by decide, by decide⟩ ?_
      exact mj_ret (v := some (mI ((0 : Int)))) ⟨dX8_isSlot_23, .boolean, rfl, by decide⟩ K
    · replace K := K.2 h
      refine mj_iload_n (k := 1) dX8_isSlot_12 rfl rfl ?_
      refine mj_bipush (n := 12) dX8_isSlot_13 ⟨by decide, by decide⟩ (by decide) ?_
      refine mj_icmp_ge (tgt := 22) dX8_isSlot_15 (by decide) ⟨fun h => ?_, fun h => ?_⟩
      · replace K := K.1 h
        refine mj_iconst dX8_isSlot_22 ⟨by decide, by decide⟩ ?_
        exact mj_ret (v := some (mI ((0 : Int)))) ⟨dX8_isSlot_23, .boolean, rfl, by decide⟩ K
      · replace K := K.2 h
        refine mj_iconst dX8_isSlot_18 ⟨by decide, by decide⟩ ?_
        refine mj_goto (tgt := 23) dX8_isSlot_19 (by decide) ?_
        exact mj_ret (v := some (mI ((1 : Int)))) ⟨dX8_isSlot_23, .boolean, rfl, by decide⟩ K
theorem B_Y8_sizeAt_0 {kb wb : Nat} {σ : mx_S} {Q : mx_R → Prop} {l0 : Nat} {l1 : Int} (K : ∃ (fs : List mx_V), sH σ (l0) = some (.inl (8, fs)) ∧ ∃ (r2 : Int) (σ1 : mx_S), mx_MS Y8_isSlot [mR l0, mI l1] σ (.inl (some (mI r2), σ1)) ∧ sK σ1 ≤ kb ∧ sW σ1 ≤ wb ∧ (r2 = (0 : Int) → Q (.inl (some (mI ((0 : Int))), σ1))) ∧ (¬ (r2 = (0 : Int)) → ∃ (fs : List mx_V), sH σ1 (l0) = some (.inl (8, fs)) ∧ ∃ x5, fs[1]? = some (mR x5) ∧ ∃ (n6 : Nat) (f : Nat → mx_V), sH σ1 (x5) = some (.inr (0, n6, f)) ∧ 0 ≤ l1 ∧ l1 < (n6 : Int) ∧ ∃ x7, f (l1).toNat = mI x7 ∧ Q (.inl (some (mI x7), σ1)))) : mx_J Y8_sizeAt kb wb 0 [some (mR l0), some (mI l1)] [] σ Q := by
  refine mj_aload_n (k := 0) dX8_sizeAt_0 rfl rfl ?_
  refine mj_iload_n (k := 1) dX8_sizeAt_1 rfl rfl ?_
  obtain ⟨fs3, hbfs3, K⟩ := K
  obtain ⟨r2, σ1, hMσ1, hkσ1, hwσ1, K⟩ := K
  refine mj_callV (As := [mI l1]) (rest := []) (b := l0) dX8_sizeAt_2 k_Y8_sizeAt_30 rfl hbfs3 rfl (Nat.le_of_ble_eq_true rfl) hMσ1 hkσ1 hwσ1 ?_
  refine mj_if_eq (tgt := 17) dX8_sizeAt_5 (by decide) ⟨fun h => ?_, fun h => ?_⟩
  · replace K := K.1 h
    refine mj_iconst dX8_sizeAt_17 ⟨by decide, by decide⟩ ?_
    exact mj_ret (v := some (mI ((0 : Int)))) ⟨dX8_sizeAt_18, .int, rfl, rfl⟩ K
  · replace K := K.2 h
    refine mj_aload_n (k := 0) dX8_sizeAt_8 rfl rfl ?_
    obtain ⟨fs4, hffs4, x5, hxx5, K⟩ := K
    refine mj_get dX8_sizeAt_9 lf_Y8_sizeAt_15 hffs4 hxx5 ?_
    refine mj_iload_n (k := 1) dX8_sizeAt_12 rfl rfl ?_
    obtain ⟨n6, fn6, hfn6, h0n6, h1n6, x7, hxx7, K⟩ := K
    refine mj_iald dX8_sizeAt_13 hfn6 h0n6 h1n6 ?_
    rw [hxx7]
    refine mj_goto (tgt := 18) dX8_sizeAt_14 (by decide) ?_
    exact mj_ret (v := some (mI x7)) ⟨dX8_sizeAt_18, .int, rfl, rfl⟩ K
theorem B_Y6_size_0 {kb wb : Nat} {σ : mx_S} {Q : mx_R → Prop} {l0 : Nat} (K : ∃ (fs : List mx_V), sH σ (l0) = some (.inl (6, fs)) ∧ ∃ x2, fs[1]? = some (mI x2) ∧ Q (.inl (some (mI x2), σ))) : mx_J Y6_size kb wb 0 [some (mR l0)] [] σ Q := by
  refine mj_aload_n (k := 0) dX6_size_0 rfl rfl ?_
  obtain ⟨fs1, hffs1, x2, hxx2, K⟩ := K
  refine mj_get dX6_size_1 lf_Y6_size_15 hffs1 hxx2 ?_
  exact mj_ret (v := some (mI x2)) ⟨dX6_size_4, .int, rfl, rfl⟩ K
theorem B_Y6_sign_0 {kb wb : Nat} {σ : mx_S} {Q : mx_R → Prop} {l0 : Nat} {l1 : Int} (K : (l1 < (0 : Int) → Q (.inl (some (mI ((0 : Int))), σ))) ∧ (¬ (l1 < (0 : Int)) → ∃ (fs : List mx_V), sH σ (l0) = some (.inl (6, fs)) ∧ ∃ x2, fs[1]? = some (mI x2) ∧ (x2 ≤ l1 → Q (.inl (some (mI ((0 : Int))), σ))) ∧ (¬ (x2 ≤ l1) → ∃ (fs : List mx_V), sH σ (l0) = some (.inl (6, fs)) ∧ ∃ x4, fs[0]? = some (mR x4) ∧ ∃ (kd n5 : Nat) (f : Nat → mx_V), sH σ (x4) = some (.inr (kd, n5, f)) ∧ ((n5 : Int) ≤ l1 → Q (.inl (some (mI ((0 : Int))), σ))) ∧ (¬ ((n5 : Int) ≤ l1) → ∃ (fs : List mx_V), sH σ (l0) = some (.inl (6, fs)) ∧ ∃ x7, fs[0]? = some (mR x7) ∧ ∃ (n8 : Nat) (f : Nat → mx_V), sH σ (x7) = some (.inr (1, n8, f)) ∧ 0 ≤ l1 ∧ l1 < (n8 : Int) ∧ ∃ x9, f (l1).toNat = mI x9 ∧ 0 ≤ x9 ∧ x9 ≤ 65535 ∧ Q (.inl (some (mI x9), σ)))))) : mx_J Y6_sign kb wb 0 [some (mR l0), some (mI l1)] [] σ Q := by
  refine mj_iload_n (k := 1) dX6_sign_0 rfl rfl ?_
  refine mj_if_lt (tgt := 30) dX6_sign_1 (by decide) ⟨fun h => ?_, fun h => ?_⟩
  · replace K := K.1 h
    refine mj_iconst dX6_sign_30 ⟨by decide, by decide⟩ ?_
    exact mj_ret (v := some (mI ((0 : Int)))) ⟨dX6_sign_31, .char, rfl, by decide⟩ K
  · replace K := K.2 h
    refine mj_iload_n (k := 1) dX6_sign_4 rfl rfl ?_
    refine mj_aload_n (k := 0) dX6_sign_5 rfl rfl ?_
    obtain ⟨fs1, hffs1, x2, hxx2, K⟩ := K
    refine mj_get dX6_sign_6 lf_Y6_sign_15 hffs1 hxx2 ?_
    refine mj_icmp_ge (tgt := 30) dX6_sign_9 (by decide) ⟨fun h => ?_, fun h => ?_⟩
    · replace K := K.1 h
      refine mj_iconst dX6_sign_30 ⟨by decide, by decide⟩ ?_
      exact mj_ret (v := some (mI ((0 : Int)))) ⟨dX6_sign_31, .char, rfl, by decide⟩ K
    · replace K := K.2 h
      refine mj_iload_n (k := 1) dX6_sign_12 rfl rfl ?_
      refine mj_aload_n (k := 0) dX6_sign_13 rfl rfl ?_
      obtain ⟨fs3, hffs3, x4, hxx4, K⟩ := K
      refine mj_get dX6_sign_14 lf_Y6_sign_9 hffs3 hxx4 ?_
      obtain ⟨kd, n5, fn5, hfn5, K⟩ := K
      refine mj_alen dX6_sign_17 hfn5 ?_
      refine mj_icmp_ge (tgt := 30) dX6_sign_18 (by decide) ⟨fun h => ?_, fun h => ?_⟩
      · replace K := K.1 h
        refine mj_iconst dX6_sign_30 ⟨by decide, by decide⟩ ?_
        exact mj_ret (v := some (mI ((0 : Int)))) ⟨dX6_sign_31, .char, rfl, by decide⟩ K
      · replace K := K.2 h
        refine mj_aload_n (k := 0) dX6_sign_21 rfl rfl ?_
        obtain ⟨fs6, hffs6, x7, hxx7, K⟩ := K
        refine mj_get dX6_sign_22 lf_Y6_sign_9 hffs6 hxx7 ?_
        refine mj_iload_n (k := 1) dX6_sign_25 rfl rfl ?_
        obtain ⟨n8, fn8, hfn8, h0n8, h1n8, x9, hxx9, K⟩ := K
        refine mj_cald dX6_sign_26 hfn8 h0n8 h1n8 ?_
        rw [hxx9]
        refine mj_goto (tgt := 31) dX6_sign_27 (by decide) ?_
        exact mj_ret (v := some (mI x9)) ⟨dX6_sign_31, .char, rfl, mx_nch K.1 K.2.1⟩ K.2.2
theorem B_Y8_widen_0 {kb wb : Nat} {σ : mx_S} {Q : mx_R → Prop} {l0 : Nat} {l1 : Int} {l2 : Int} {l3 : Nat} (K : ∃ (fs : List mx_V), sH σ (l0) = some (.inl (8, fs)) ∧ ∃ (r2 : Int) (σ1 : mx_S), mx_MS Y8_sizeAt [mR l0, mI l1] σ (.inl (some (mI r2), σ1)) ∧ sK σ1 ≤ kb ∧ sW σ1 ≤ wb ∧ ∃ (fs : List mx_V), sH σ1 (l3) = some (.inl (6, fs)) ∧ ∃ (r5 : Int) (σ4 : mx_S), mx_MS Y6_size [mR l3] σ1 (.inl (some (mI r5), σ4)) ∧ sK σ4 ≤ kb ∧ sW σ4 ≤ wb ∧ ∃ (fs : List mx_V), sH σ4 (l0) = some (.inl (8, fs)) ∧ ∃ (r8 : Int) (σ7 : mx_S), mx_MS Y8_isSlot [mR l0, mI l1] σ4 (.inl (some (mI r8), σ7)) ∧ sK σ7 ≤ kb ∧ sW σ7 ≤ wb ∧ (r8 = (0 : Int) → Q (.inl (none, σ7))) ∧ (¬ (r8 = (0 : Int)) → (l2 < (0 : Int) → Q (.inl (none, σ7))) ∧ (¬ (l2 < (0 : Int)) → (r2 < l2 → Q (.inl (none, σ7))) ∧ (¬ (r2 < l2) → (mx_w (r2 + r5) ≤ (40 : Int) → ∃ (fs : List mx_V), sH σ7 (l0) = some (.inl (8, fs)) ∧ ∃ x11, fs[2]? = some (mR x11) ∧ ∃ (fs : List mx_V), sH σ7 (l0) = some (.inl (8, fs)) ∧ ∃ x13, fs[2]? = some (mR x13) ∧ ∃ (kd n15 n16 : Nat) (f g : Nat → mx_V), sH σ7 (x11) = some (.inr (kd, n15, f)) ∧ sH σ7 (x13) = some (.inr (kd, n16, g)) ∧ kd < 2 ∧ sB σ7 ≤ x13 ∧ 0 ≤ mx_w (mx_w (l1 * (40 : Int)) + l2) ∧ 0 ≤ mx_w (mx_w (mx_w (l1 * (40 : Int)) + l2) + r5) ∧ 0 ≤ mx_w (r2 - l2) ∧ mx_w (mx_w (l1 * (40 : Int)) + l2) + mx_w (r2 - l2) ≤ (n15 : Int) ∧ mx_w (mx_w (mx_w (l1 * (40 : Int)) + l2) + r5) + mx_w (r2 - l2) ≤ (n16 : Int) ∧ (∀ i : Nat, i < (mx_w (r2 - l2)).toNat → fits (mx_ty kd) (mx_c (f ((mx_w (mx_w (l1 * (40 : Int)) + l2)).toNat + i))) = true) ∧ ∀ σ14, σ14 = mx_wr σ7 (x13) (.inr (kd, n16, cpV f g (mx_w (mx_w (l1 * (40 : Int)) + l2)).toNat (mx_w (mx_w (mx_w (l1 * (40 : Int)) + l2) + r5)).toNat (mx_w (r2 - l2)).toNat)) → mx_J Y8_widen kb wb 77 [some (mR l0), some (mI l1), some (mI l2), some (mR l3), some (mI r2), some (mI r5), some (mI (mx_w (l1 * (40 : Int)))), some (mI ((0 : Int)))] [] σ14 Q) ∧ (¬ (mx_w (r2 + r5) ≤ (40 : Int)) → Q (.inl (none, σ7))))))) : mx_J Y8_widen kb wb 0 [some (mR l0), some (mI l1), some (mI l2), some (mR l3), none, none, none, none] [] σ Q := by
  refine mj_aload_n (k := 0) dX8_widen_0 rfl rfl ?_
  refine mj_iload_n (k := 1) dX8_widen_1 rfl rfl ?_
  obtain ⟨fs3, hbfs3, K⟩ := K
  obtain ⟨r2, σ1, hMσ1, hkσ1, hwσ1, K⟩ := K
  refine mj_callV (As := [mI l1]) (rest := []) (b := l0) dX8_widen_2 k_Y8_widen_34 rfl hbfs3 rfl (Nat.le_of_ble_eq_true rfl) hMσ1 hkσ1 hwσ1 ?_
  refine mj_istore (k := 4) (ls' := [some (mR l0), some (mI l1), some (mI l2), some (mR l3), some (mI r2), none, none, none]) dX8_widen_5 (by decide) rfl ?_
  refine mj_aload_n (k := 3) dX8_widen_7 rfl rfl ?_
  obtain ⟨fs6, hbfs6, K⟩ := K
  obtain ⟨r5, σ4, hMσ4, hkσ4, hwσ4, K⟩ := K
  refine mj_callV (As := []) (rest := []) (b := l3) dX8_widen_8 k_Y8_widen_41 rfl hbfs6 rfl (Nat.le_of_ble_eq_true rfl) hMσ4 hkσ4 hwσ4 ?_
  refine mj_istore (k := 5) (ls' := [some (mR l0), some (mI l1), some (mI l2), some (mR l3), some (mI r2), some (mI r5), none, none]) dX8_widen_11 (by decide) rfl ?_
  refine mj_aload_n (k := 0) dX8_widen_13 rfl rfl ?_
  refine mj_iload_n (k := 1) dX8_widen_14 rfl rfl ?_
  obtain ⟨fs9, hbfs9, K⟩ := K
  obtain ⟨r8, σ7, hMσ7, hkσ7, hwσ7, K⟩ := K
  refine mj_callV (As := [mI l1]) (rest := []) (b := l0) dX8_widen_15 k_Y8_widen_30 rfl hbfs9 rfl (Nat.le_of_ble_eq_true rfl) hMσ7 hkσ7 hwσ7 ?_
  refine mj_if_eq (tgt := 41) dX8_widen_18 (by decide) ⟨fun h => ?_, fun h => ?_⟩
  · replace K := K.1 h
    exact mj_ret (v := none) ⟨dX8_widen_41, rfl⟩ K
  · replace K := K.2 h
    refine mj_iload_n (k := 2) dX8_widen_21 rfl rfl ?_
    refine mj_if_lt (tgt := 41) dX8_widen_22 (by decide) ⟨fun h => ?_, fun h => ?_⟩
    · replace K := K.1 h
      exact mj_ret (v := none) ⟨dX8_widen_41, rfl⟩ K
    · replace K := K.2 h
      refine mj_iload_n (k := 2) dX8_widen_25 rfl rfl ?_
      refine mj_iload (k := 4) dX8_widen_26 rfl ?_
      refine mj_icmp_gt (tgt := 41) dX8_widen_28 (by decide) ⟨fun h => ?_, fun h => ?_⟩
      · replace K := K.1 h
        exact mj_ret (v := none) ⟨dX8_widen_41, rfl⟩ K
      · replace K := K.2 h
        refine mj_iload (k := 4) dX8_widen_31 rfl ?_
        refine mj_iload (k := 5) dX8_widen_33 rfl ?_
        refine mj_iadd dX8_widen_35 ?_
        refine mj_bipush (n := 40) dX8_widen_36 ⟨by decide, by decide⟩ (by decide) ?_
        refine mj_icmp_le (tgt := 42) dX8_widen_38 (by decide) ⟨fun h => ?_, fun h => ?_⟩
        · replace K := K.1 h
          refine mj_iload_n (k := 1) dX8_widen_42 rfl rfl ?_
          refine mj_bipush (n := 40) dX8_widen_43 ⟨by decide, by decide⟩ (by decide) ?_
          refine mj_imul dX8_widen_45 ?_
          refine mj_istore (k := 6) (ls' := [some (mR l0), some (mI l1), some (mI l2), some (mR l3), some (mI r2), some (mI r5), some (mI (mx_w (l1 * (40 : Int)))), none]) dX8_widen_46 (by decide) rfl ?_
          refine mj_aload_n (k := 0) dX8_widen_48 rfl rfl ?_
          obtain ⟨fs10, hffs10, x11, hxx11, K⟩ := K
          refine mj_get dX8_widen_49 lf_Y8_widen_18 hffs10 hxx11 ?_
          refine mj_iload (k := 6) dX8_widen_52 rfl ?_
          refine mj_iload_n (k := 2) dX8_widen_54 rfl rfl ?_
          refine mj_iadd dX8_widen_55 ?_
          refine mj_aload_n (k := 0) dX8_widen_56 rfl rfl ?_
          obtain ⟨fs12, hffs12, x13, hxx13, K⟩ := K
          refine mj_get dX8_widen_57 lf_Y8_widen_18 hffs12 hxx13 ?_
          refine mj_iload (k := 6) dX8_widen_60 rfl ?_
          refine mj_iload_n (k := 2) dX8_widen_62 rfl rfl ?_
          refine mj_iadd dX8_widen_63 ?_
          refine mj_iload (k := 5) dX8_widen_64 rfl ?_
          refine mj_iadd dX8_widen_66 ?_
          refine mj_iload (k := 4) dX8_widen_67 rfl ?_
          refine mj_iload_n (k := 2) dX8_widen_69 rfl rfl ?_
          refine mj_isub dX8_widen_70 ?_
          obtain ⟨kd, n15, n16, f, g, hc0, hc1, hkd, hb, h1, h2, h3, h4, h5, h6, K⟩ := K
          replace K := K _ rfl
          refine mj_copy (rest := []) dX8_widen_71 w_615 w_410 w_409 w_37 (by decide) (Nat.le_of_ble_eq_true rfl) hc0 hc1 hkd hb h1 h2 h3 h4 h5 h6 ?_
          generalize mx_wr σ7 (x13) (.inr (kd, n16, cpV f g (mx_w (mx_w (l1 * (40 : Int)) + l2)).toNat (mx_w (mx_w (mx_w (l1 * (40 : Int)) + l2) + r5)).toNat (mx_w (r2 - l2)).toNat)) = σ14 at K ⊢
          refine mj_iconst dX8_widen_74 ⟨by decide, by decide⟩ ?_
          refine mj_istore (k := 7) (ls' := [some (mR l0), some (mI l1), some (mI l2), some (mR l3), some (mI r2), some (mI r5), some (mI (mx_w (l1 * (40 : Int)))), some (mI ((0 : Int)))]) dX8_widen_75 (by decide) rfl ?_
          exact K
        · replace K := K.2 h
          exact mj_ret (v := none) ⟨dX8_widen_41, rfl⟩ K
theorem B_Y8_widen_77 {kb wb : Nat} {σ : mx_S} {Q : mx_R → Prop} {l0 : Nat} {l1 : Int} {l2 : Int} {l3 : Nat} {l4 : Int} {l5 : Int} {l6 : Int} {l7 : Int} (K : (l5 ≤ l7 → ∃ (fs : List mx_V), sH σ (l0) = some (.inl (8, fs)) ∧ ∃ x2, fs[1]? = some (mR x2) ∧ ∃ (n3 : Nat) (f : Nat → mx_V), sH σ (x2) = some (.inr (0, n3, f)) ∧ sB σ ≤ x2 ∧ 0 ≤ l1 ∧ l1 < (n3 : Int) ∧ ∀ σ4, σ4 = mx_wr σ (x2) (.inr (0, n3, upV f (l1).toNat (mI (mx_w (l4 + l5))))) → Q (.inl (none, σ4))) ∧ (¬ (l5 ≤ l7) → ∃ (fs : List mx_V), sH σ (l0) = some (.inl (8, fs)) ∧ ∃ x6, fs[2]? = some (mR x6) ∧ ∃ (fs : List mx_V), sH σ (l3) = some (.inl (6, fs)) ∧ ∃ (r8 : Int) (σ7 : mx_S), mx_MS Y6_sign [mR l3, mI l7] σ (.inl (some (mI r8), σ7)) ∧ sK σ7 ≤ kb ∧ sW σ7 ≤ wb ∧ ∃ (n10 : Nat) (f : Nat → mx_V), sH σ7 (x6) = some (.inr (1, n10, f)) ∧ sB σ7 ≤ x6 ∧ 0 ≤ mx_w (mx_w (l6 + l2) + l7) ∧ mx_w (mx_w (l6 + l2) + l7) < (n10 : Int) ∧ 0 ≤ r8 ∧ r8 ≤ 65535 ∧ ∀ σ11, σ11 = mx_wr σ7 (x6) (.inr (1, n10, upV f (mx_w (mx_w (l6 + l2) + l7)).toNat (mI r8))) → mx_J Y8_widen kb wb 77 [some (mR l0), some (mI l1), some (mI l2), some (mR l3), some (mI l4), some (mI l5), some (mI l6), some (mI (mx_w (l7 + (1 : Int))))] [] σ11 Q)) : mx_J Y8_widen kb wb 77 [some (mR l0), some (mI l1), some (mI l2), some (mR l3), some (mI l4), some (mI l5), some (mI l6), some (mI l7)] [] σ Q := by
  refine mj_iload (k := 7) dX8_widen_77 rfl ?_
  refine mj_iload (k := 5) dX8_widen_79 rfl ?_
  refine mj_icmp_ge (tgt := 108) dX8_widen_81 (by decide) ⟨fun h => ?_, fun h => ?_⟩
  · replace K := K.1 h
    refine mj_aload_n (k := 0) dX8_widen_108 rfl rfl ?_
    obtain ⟨fs1, hffs1, x2, hxx2, K⟩ := K
    refine mj_get dX8_widen_109 lf_Y8_widen_15 hffs1 hxx2 ?_
    refine mj_iload_n (k := 1) dX8_widen_112 rfl rfl ?_
    refine mj_iload (k := 4) dX8_widen_113 rfl ?_
    refine mj_iload (k := 5) dX8_widen_115 rfl ?_
    refine mj_iadd dX8_widen_117 ?_
    obtain ⟨n3, fn3, hfn3, hbn3, h0n3, h1n3, K⟩ := K
    replace K := K _ rfl
    refine mj_iast dX8_widen_118 hfn3 hbn3 h0n3 h1n3 ?_
    generalize mx_wr σ (x2) (.inr (0, n3, upV fn3 (l1).toNat (mI (mx_w (l4 + l5))))) = σ4 at K ⊢
    exact mj_ret (v := none) ⟨dX8_widen_119, rfl⟩ K
  · replace K := K.2 h
    refine mj_aload_n (k := 0) dX8_widen_84 rfl rfl ?_
    obtain ⟨fs5, hffs5, x6, hxx6, K⟩ := K
    refine mj_get dX8_widen_85 lf_Y8_widen_18 hffs5 hxx6 ?_
    refine mj_iload (k := 6) dX8_widen_88 rfl ?_
    refine mj_iload_n (k := 2) dX8_widen_90 rfl rfl ?_
    refine mj_iadd dX8_widen_91 ?_
    refine mj_iload (k := 7) dX8_widen_92 rfl ?_
    refine mj_iadd dX8_widen_94 ?_
    refine mj_aload_n (k := 3) dX8_widen_95 rfl rfl ?_
    refine mj_iload (k := 7) dX8_widen_96 rfl ?_
    obtain ⟨fs9, hbfs9, K⟩ := K
    obtain ⟨r8, σ7, hMσ7, hkσ7, hwσ7, K⟩ := K
    refine mj_callV (As := [mI l7]) (rest := [mI (mx_w (mx_w (l6 + l2) + l7)), mR x6]) (b := l3) dX8_widen_98 k_Y8_widen_53 rfl hbfs9 rfl (Nat.le_of_ble_eq_true rfl) hMσ7 hkσ7 hwσ7 ?_
    obtain ⟨n10, fn10, hfn10, hbn10, h0n10, h1n10, c0n10, c1n10, K⟩ := K
    replace K := K _ rfl
    refine mj_cast dX8_widen_101 hfn10 hbn10 h0n10 h1n10 (mx_nch c0n10 c1n10) ?_
    generalize mx_wr σ7 (x6) (.inr (1, n10, upV fn10 (mx_w (mx_w (l6 + l2) + l7)).toNat (mI r8))) = σ11 at K ⊢
    refine mj_iinc (k := 7) (ls' := [some (mR l0), some (mI l1), some (mI l2), some (mR l3), some (mI l4), some (mI l5), some (mI l6), some (mI (mx_w (l7 + (1 : Int))))]) dX8_widen_102 rfl (by decide) rfl ?_
    refine mj_goto (tgt := 77) dX8_widen_105 (by decide) ?_
    exact K
theorem B_Y8_append_0 {kb wb : Nat} {σ : mx_S} {Q : mx_R → Prop} {l0 : Nat} {l1 : Int} {l2 : Nat} (K : ∃ (fs : List mx_V), sH σ (l0) = some (.inl (8, fs)) ∧ ∃ x2, fs[3]? = some (mI x2) ∧ (x2 < (0 : Int) → Q (.inl (none, σ))) ∧ (¬ (x2 < (0 : Int)) → ∃ (fs : List mx_V), sH σ (l0) = some (.inl (8, fs)) ∧ ∃ x4, fs[3]? = some (mI x4) ∧ (x4 < (12 : Int) → ∃ (fs : List mx_V), sH σ (l0) = some (.inl (8, fs)) ∧ ∃ x6, fs[0]? = some (mR x6) ∧ ∃ (fs : List mx_V), sH σ (l0) = some (.inl (8, fs)) ∧ ∃ x8, fs[3]? = some (mI x8) ∧ ∃ (n9 : Nat) (f : Nat → mx_V), sH σ (x6) = some (.inr (0, n9, f)) ∧ sB σ ≤ x6 ∧ 0 ≤ x8 ∧ x8 < (n9 : Int) ∧ ∀ σ10, σ10 = mx_wr σ (x6) (.inr (0, n9, upV f (x8).toNat (mI l1))) → ∃ (fs : List mx_V), sH σ10 (l0) = some (.inl (8, fs)) ∧ ∃ x12, fs[1]? = some (mR x12) ∧ ∃ (fs : List mx_V), sH σ10 (l0) = some (.inl (8, fs)) ∧ ∃ x14, fs[3]? = some (mI x14) ∧ ∃ (n15 : Nat) (f : Nat → mx_V), sH σ10 (x12) = some (.inr (0, n15, f)) ∧ sB σ10 ≤ x12 ∧ 0 ≤ x14 ∧ x14 < (n15 : Int) ∧ ∀ σ16, σ16 = mx_wr σ10 (x12) (.inr (0, n15, upV f (x14).toNat (mI ((0 : Int))))) → ∃ (fs : List mx_V), sH σ16 (l0) = some (.inl (8, fs)) ∧ ∃ x18, fs[3]? = some (mI x18) ∧ ∃ (fs : List mx_V), sH σ16 (l0) = some (.inl (8, fs)) ∧ 3 < fs.length ∧ sB σ16 ≤ l0 ∧ ∀ σ20, σ20 = mx_wr σ16 (l0) (.inl (8, fs.set 3 (mI (mx_w (x18 + (1 : Int)))))) → ∃ (fs : List mx_V), sH σ20 (l0) = some (.inl (8, fs)) ∧ ∃ x22, fs[3]? = some (mI x22) ∧ ∃ (fs : List mx_V), sH σ20 (l0) = some (.inl (8, fs)) ∧ ∃ (σ23 : mx_S), mx_MS Y8_widen [mR l0, mI (mx_w (x22 - (1 : Int))), mI ((0 : Int)), mR l2] σ20 (.inl (none, σ23)) ∧ sK σ23 ≤ kb ∧ sW σ23 ≤ wb ∧ Q (.inl (none, σ23))) ∧ (¬ (x4 < (12 : Int)) → Q (.inl (none, σ))))) : mx_J Y8_append kb wb 0 [some (mR l0), some (mI l1), some (mR l2)] [] σ Q := by
  refine mj_aload_n (k := 0) dX8_append_0 rfl rfl ?_
  obtain ⟨fs1, hffs1, x2, hxx2, K⟩ := K
  refine mj_get dX8_append_1 lf_Y8_append_22 hffs1 hxx2 ?_
  refine mj_if_lt (tgt := 16) dX8_append_4 (by decide) ⟨fun h => ?_, fun h => ?_⟩
  · replace K := K.1 h
    exact mj_ret (v := none) ⟨dX8_append_16, rfl⟩ K
  · replace K := K.2 h
    refine mj_aload_n (k := 0) dX8_append_7 rfl rfl ?_
    obtain ⟨fs3, hffs3, x4, hxx4, K⟩ := K
    refine mj_get dX8_append_8 lf_Y8_append_22 hffs3 hxx4 ?_
    refine mj_bipush (n := 12) dX8_append_11 ⟨by decide, by decide⟩ (by decide) ?_
    refine mj_icmp_lt (tgt := 17) dX8_append_13 (by decide) ⟨fun h => ?_, fun h => ?_⟩
    · replace K := K.1 h
      refine mj_aload_n (k := 0) dX8_append_17 rfl rfl ?_
      obtain ⟨fs5, hffs5, x6, hxx6, K⟩ := K
      refine mj_get dX8_append_18 lf_Y8_append_9 hffs5 hxx6 ?_
      refine mj_aload_n (k := 0) dX8_append_21 rfl rfl ?_
      obtain ⟨fs7, hffs7, x8, hxx8, K⟩ := K
      refine mj_get dX8_append_22 lf_Y8_append_22 hffs7 hxx8 ?_
      refine mj_iload_n (k := 1) dX8_append_25 rfl rfl ?_
      obtain ⟨n9, fn9, hfn9, hbn9, h0n9, h1n9, K⟩ := K
      replace K := K _ rfl
      refine mj_iast dX8_append_26 hfn9 hbn9 h0n9 h1n9 ?_
      generalize mx_wr σ (x6) (.inr (0, n9, upV fn9 (x8).toNat (mI l1))) = σ10 at K ⊢
      refine mj_aload_n (k := 0) dX8_append_27 rfl rfl ?_
      obtain ⟨fs11, hffs11, x12, hxx12, K⟩ := K
      refine mj_get dX8_append_28 lf_Y8_append_15 hffs11 hxx12 ?_
      refine mj_aload_n (k := 0) dX8_append_31 rfl rfl ?_
      obtain ⟨fs13, hffs13, x14, hxx14, K⟩ := K
      refine mj_get dX8_append_32 lf_Y8_append_22 hffs13 hxx14 ?_
      refine mj_iconst dX8_append_35 ⟨by decide, by decide⟩ ?_
      obtain ⟨n15, fn15, hfn15, hbn15, h0n15, h1n15, K⟩ := K
      replace K := K _ rfl
      refine mj_iast dX8_append_36 hfn15 hbn15 h0n15 h1n15 ?_
      generalize mx_wr σ10 (x12) (.inr (0, n15, upV fn15 (x14).toNat (mI ((0 : Int))))) = σ16 at K ⊢
      refine mj_aload_n (k := 0) dX8_append_37 rfl rfl ?_
      refine mj_dup dX8_append_38 rfl ?_
      obtain ⟨fs17, hffs17, x18, hxx18, K⟩ := K
      refine mj_get dX8_append_39 lf_Y8_append_22 hffs17 hxx18 ?_
      refine mj_iconst dX8_append_42 ⟨by decide, by decide⟩ ?_
      refine mj_iadd dX8_append_43 ?_
      obtain ⟨fs19, hffs19, hlfs19, hbfs19, K⟩ := K
      replace K := K _ rfl
      refine mj_put dX8_append_44 pf_Y8_append_22 hffs19 hlfs19 hbfs19 ⟨rfl, rfl⟩ ?_
      generalize mx_wr σ16 (l0) (.inl (8, fs19.set 3 (mI (mx_w (x18 + (1 : Int)))))) = σ20 at K ⊢
      refine mj_aload_n (k := 0) dX8_append_47 rfl rfl ?_
      refine mj_aload_n (k := 0) dX8_append_48 rfl rfl ?_
      obtain ⟨fs21, hffs21, x22, hxx22, K⟩ := K
      refine mj_get dX8_append_49 lf_Y8_append_22 hffs21 hxx22 ?_
      refine mj_iconst dX8_append_52 ⟨by decide, by decide⟩ ?_
      refine mj_isub dX8_append_53 ?_
      refine mj_iconst dX8_append_54 ⟨by decide, by decide⟩ ?_
      refine mj_aload_n (k := 2) dX8_append_55 rfl rfl ?_
      obtain ⟨fs24, hbfs24, K⟩ := K
      obtain ⟨σ23, hMσ23, hkσ23, hwσ23, K⟩ := K
      refine mj_callV (As := [mI (mx_w (x22 - (1 : Int))), mI ((0 : Int)), mR l2]) (rest := []) (b := l0) dX8_append_56 k_Y8_append_37 rfl hbfs24 rfl (Nat.le_of_ble_eq_true rfl) hMσ23 hkσ23 hwσ23 ?_
      exact mj_ret (v := none) ⟨dX8_append_59, rfl⟩ K
    · replace K := K.2 h
      exact mj_ret (v := none) ⟨dX8_append_16, rfl⟩ K
theorem B_Y9_forgetOrder_0 {kb wb : Nat} {σ : mx_S} {Q : mx_R → Prop} {l0 : Nat} (K : ∃ (fs : List mx_V), sH σ (l0) = some (.inl (9, fs)) ∧ 5 < fs.length ∧ sB σ ≤ l0 ∧ ∀ σ2, σ2 = mx_wr σ (l0) (.inl (9, fs.set 5 (mI ((0 : Int))))) → ∃ (fs : List mx_V), sH σ2 (l0) = some (.inl (9, fs)) ∧ 4 < fs.length ∧ sB σ2 ≤ l0 ∧ ∀ σ4, σ4 = mx_wr σ2 (l0) (.inl (9, fs.set 4 (mI ((0 : Int))))) → Q (.inl (none, σ4))) : mx_J Y9_forgetOrder kb wb 0 [some (mR l0)] [] σ Q := by
  refine mj_aload_n (k := 0) dX9_forgetOrder_0 rfl rfl ?_
  refine mj_iconst dX9_forgetOrder_1 ⟨by decide, by decide⟩ ?_
  obtain ⟨fs1, hffs1, hlfs1, hbfs1, K⟩ := K
  replace K := K _ rfl
  refine mj_put dX9_forgetOrder_2 pf_Y9_forgetOrder_28 hffs1 hlfs1 hbfs1 ⟨by decide, by decide⟩ ?_
  generalize mx_wr σ (l0) (.inl (9, fs1.set 5 (mI ((0 : Int))))) = σ2 at K ⊢
  refine mj_aload_n (k := 0) dX9_forgetOrder_5 rfl rfl ?_
  refine mj_iconst dX9_forgetOrder_6 ⟨by decide, by decide⟩ ?_
  obtain ⟨fs3, hffs3, hlfs3, hbfs3, K⟩ := K
  replace K := K _ rfl
  refine mj_put dX9_forgetOrder_7 pf_Y9_forgetOrder_32 hffs3 hlfs3 hbfs3 ⟨rfl, rfl⟩ ?_
  generalize mx_wr σ2 (l0) (.inl (9, fs3.set 4 (mI ((0 : Int))))) = σ4 at K ⊢
  exact mj_ret (v := none) ⟨dX9_forgetOrder_10, rfl⟩ K
theorem B_Y7_isSegment_0 {kb wb : Nat} {σ : mx_S} {Q : mx_R → Prop} {l0 : Nat} {l1 : Int} (K : (l1 < (0 : Int) → Q (.inl (some (mI ((0 : Int))), σ))) ∧ (¬ (l1 < (0 : Int)) → ∃ (fs : List mx_V), sH σ (l0) = some (.inl (7, fs)) ∧ ∃ x2, fs[4]? = some (mI x2) ∧ (x2 ≤ l1 → Q (.inl (some (mI ((0 : Int))), σ))) ∧ (¬ (x2 ≤ l1) → ((512 : Int) ≤ l1 → Q (.inl (some (mI ((0 : Int))), σ))) ∧ (¬ ((512 : Int) ≤ l1) → Q (.inl (some (mI ((1 : Int))), σ)))))) : mx_J Y7_isSegment kb wb 0 [some (mR l0), some (mI l1)] [] σ Q := by
  refine mj_iload_n (k := 1) dX7_isSegment_0 rfl rfl ?_
  refine mj_if_lt (tgt := 23) dX7_isSegment_1 (by decide) ⟨fun h => ?_, fun h => ?_⟩
  · replace K := K.1 h
    refine mj_iconst dX7_isSegment_23 ⟨by decide, by decide⟩ ?_
    exact mj_ret (v := some (mI ((0 : Int)))) ⟨dX7_isSegment_24, .boolean, rfl, by decide⟩ K
  · replace K := K.2 h
    refine mj_iload_n (k := 1) dX7_isSegment_4 rfl rfl ?_
    refine mj_aload_n (k := 0) dX7_isSegment_5 rfl rfl ?_
    obtain ⟨fs1, hffs1, x2, hxx2, K⟩ := K
    refine mj_get dX7_isSegment_6 lf_Y7_isSegment_30 hffs1 hxx2 ?_
    refine mj_icmp_ge (tgt := 23) dX7_isSegment_9 (by decide) ⟨fun h => ?_, fun h => ?_⟩
    · replace K := K.1 h
      refine mj_iconst dX7_isSegment_23 ⟨by decide, by decide⟩ ?_
      exact mj_ret (v := some (mI ((0 : Int)))) ⟨dX7_isSegment_24, .boolean, rfl, by decide⟩ K
    · replace K := K.2 h
      refine mj_iload_n (k := 1) dX7_isSegment_12 rfl rfl ?_
      refine mj_sipush (n := 512) dX7_isSegment_13 ⟨by decide, by decide⟩ (by decide) ?_
      refine mj_icmp_ge (tgt := 23) dX7_isSegment_16 (by decide) ⟨fun h => ?_, fun h => ?_⟩
      · replace K := K.1 h
        refine mj_iconst dX7_isSegment_23 ⟨by decide, by decide⟩ ?_
        exact mj_ret (v := some (mI ((0 : Int)))) ⟨dX7_isSegment_24, .boolean, rfl, by decide⟩ K
      · replace K := K.2 h
        refine mj_iconst dX7_isSegment_19 ⟨by decide, by decide⟩ ?_
        refine mj_goto (tgt := 24) dX7_isSegment_20 (by decide) ?_
        exact mj_ret (v := some (mI ((1 : Int)))) ⟨dX7_isSegment_24, .boolean, rfl, by decide⟩ K
theorem B_Y7_fill_0 {kb wb : Nat} {σ : mx_S} {Q : mx_R → Prop} {l0 : Nat} {l1 : Int} {l2 : Int} {l3 : Int} {l4 : Int} (K : ∃ (fs : List mx_V), sH σ (l0) = some (.inl (7, fs)) ∧ ∃ (r2 : Int) (σ1 : mx_S), mx_MS Y7_isSegment [mR l0, mI l1] σ (.inl (some (mI r2), σ1)) ∧ sK σ1 ≤ kb ∧ sW σ1 ≤ wb ∧ (r2 = (0 : Int) → Q (.inl (none, σ1))) ∧ (¬ (r2 = (0 : Int)) → ∃ (fs : List mx_V), sH σ1 (l0) = some (.inl (7, fs)) ∧ ∃ x5, fs[0]? = some (mR x5) ∧ ∃ (n6 : Nat) (f : Nat → mx_V), sH σ1 (x5) = some (.inr (0, n6, f)) ∧ sB σ1 ≤ x5 ∧ 0 ≤ l1 ∧ l1 < (n6 : Int) ∧ ∀ σ7, σ7 = mx_wr σ1 (x5) (.inr (0, n6, upV f (l1).toNat (mI l2))) → ∃ (fs : List mx_V), sH σ7 (l0) = some (.inl (7, fs)) ∧ ∃ x9, fs[1]? = some (mR x9) ∧ ∃ (n10 : Nat) (f : Nat → mx_V), sH σ7 (x9) = some (.inr (0, n10, f)) ∧ sB σ7 ≤ x9 ∧ 0 ≤ l1 ∧ l1 < (n10 : Int) ∧ ∀ σ11, σ11 = mx_wr σ7 (x9) (.inr (0, n10, upV f (l1).toNat (mI l3))) → ∃ (fs : List mx_V), sH σ11 (l0) = some (.inl (7, fs)) ∧ ∃ x13, fs[2]? = some (mR x13) ∧ ∃ (n14 : Nat) (f : Nat → mx_V), sH σ11 (x13) = some (.inr (0, n14, f)) ∧ sB σ11 ≤ x13 ∧ 0 ≤ l1 ∧ l1 < (n14 : Int) ∧ ∀ σ15, σ15 = mx_wr σ11 (x13) (.inr (0, n14, upV f (l1).toNat (mI l4))) → Q (.inl (none, σ15)))) : mx_J Y7_fill kb wb 0 [some (mR l0), some (mI l1), some (mI l2), some (mI l3), some (mI l4)] [] σ Q := by
  refine mj_aload_n (k := 0) dX7_fill_0 rfl rfl ?_
  refine mj_iload_n (k := 1) dX7_fill_1 rfl rfl ?_
  obtain ⟨fs3, hbfs3, K⟩ := K
  obtain ⟨r2, σ1, hMσ1, hkσ1, hwσ1, K⟩ := K
  refine mj_callV (As := [mI l1]) (rest := []) (b := l0) dX7_fill_2 k_Y7_fill_37 rfl hbfs3 rfl (Nat.le_of_ble_eq_true rfl) hMσ1 hkσ1 hwσ1 ?_
  refine mj_if_eq (tgt := 30) dX7_fill_5 (by decide) ⟨fun h => ?_, fun h => ?_⟩
  · replace K := K.1 h
    exact mj_ret (v := none) ⟨dX7_fill_30, rfl⟩ K
  · replace K := K.2 h
    refine mj_aload_n (k := 0) dX7_fill_8 rfl rfl ?_
    obtain ⟨fs4, hffs4, x5, hxx5, K⟩ := K
    refine mj_get dX7_fill_9 lf_Y7_fill_9 hffs4 hxx5 ?_
    refine mj_iload_n (k := 1) dX7_fill_12 rfl rfl ?_
    refine mj_iload_n (k := 2) dX7_fill_13 rfl rfl ?_
    obtain ⟨n6, fn6, hfn6, hbn6, h0n6, h1n6, K⟩ := K
    replace K := K _ rfl
    refine mj_iast dX7_fill_14 hfn6 hbn6 h0n6 h1n6 ?_
    generalize mx_wr σ1 (x5) (.inr (0, n6, upV fn6 (l1).toNat (mI l2))) = σ7 at K ⊢
    refine mj_aload_n (k := 0) dX7_fill_15 rfl rfl ?_
    obtain ⟨fs8, hffs8, x9, hxx9, K⟩ := K
    refine mj_get dX7_fill_16 lf_Y7_fill_15 hffs8 hxx9 ?_
    refine mj_iload_n (k := 1) dX7_fill_19 rfl rfl ?_
    refine mj_iload_n (k := 3) dX7_fill_20 rfl rfl ?_
    obtain ⟨n10, fn10, hfn10, hbn10, h0n10, h1n10, K⟩ := K
    replace K := K _ rfl
    refine mj_iast dX7_fill_21 hfn10 hbn10 h0n10 h1n10 ?_
    generalize mx_wr σ7 (x9) (.inr (0, n10, upV fn10 (l1).toNat (mI l3))) = σ11 at K ⊢
    refine mj_aload_n (k := 0) dX7_fill_22 rfl rfl ?_
    obtain ⟨fs12, hffs12, x13, hxx13, K⟩ := K
    refine mj_get dX7_fill_23 lf_Y7_fill_18 hffs12 hxx13 ?_
    refine mj_iload_n (k := 1) dX7_fill_26 rfl rfl ?_
    refine mj_iload (k := 4) dX7_fill_27 rfl ?_
    obtain ⟨n14, fn14, hfn14, hbn14, h0n14, h1n14, K⟩ := K
    replace K := K _ rfl
    refine mj_iast dX7_fill_29 hfn14 hbn14 h0n14 h1n14 ?_
    generalize mx_wr σ11 (x13) (.inr (0, n14, upV fn14 (l1).toNat (mI l4))) = σ15 at K ⊢
    exact mj_ret (v := none) ⟨dX7_fill_30, rfl⟩ K
theorem B_Y7_setHome_0 {kb wb : Nat} {σ : mx_S} {Q : mx_R → Prop} {l0 : Nat} {l1 : Int} {l2 : Int} (K : (l1 < (0 : Int) → Q (.inl (none, σ))) ∧ (¬ (l1 < (0 : Int)) → ∃ (fs : List mx_V), sH σ (l0) = some (.inl (7, fs)) ∧ ∃ x2, fs[3]? = some (mR x2) ∧ ∃ (kd n3 : Nat) (f : Nat → mx_V), sH σ (x2) = some (.inr (kd, n3, f)) ∧ ((n3 : Int) ≤ l1 → Q (.inl (none, σ))) ∧ (¬ ((n3 : Int) ≤ l1) → ∃ (fs : List mx_V), sH σ (l0) = some (.inl (7, fs)) ∧ ∃ x5, fs[3]? = some (mR x5) ∧ ∃ (n6 : Nat) (f : Nat → mx_V), sH σ (x5) = some (.inr (0, n6, f)) ∧ sB σ ≤ x5 ∧ 0 ≤ l1 ∧ l1 < (n6 : Int) ∧ ∀ σ7, σ7 = mx_wr σ (x5) (.inr (0, n6, upV f (l1).toNat (mI l2))) → Q (.inl (none, σ7))))) : mx_J Y7_setHome kb wb 0 [some (mR l0), some (mI l1), some (mI l2)] [] σ Q := by
  refine mj_iload_n (k := 1) dX7_setHome_0 rfl rfl ?_
  refine mj_if_lt (tgt := 20) dX7_setHome_1 (by decide) ⟨fun h => ?_, fun h => ?_⟩
  · replace K := K.1 h
    exact mj_ret (v := none) ⟨dX7_setHome_20, rfl⟩ K
  · replace K := K.2 h
    refine mj_iload_n (k := 1) dX7_setHome_4 rfl rfl ?_
    refine mj_aload_n (k := 0) dX7_setHome_5 rfl rfl ?_
    obtain ⟨fs1, hffs1, x2, hxx2, K⟩ := K
    refine mj_get dX7_setHome_6 lf_Y7_setHome_21 hffs1 hxx2 ?_
    obtain ⟨kd, n3, fn3, hfn3, K⟩ := K
    refine mj_alen dX7_setHome_9 hfn3 ?_
    refine mj_icmp_ge (tgt := 20) dX7_setHome_10 (by decide) ⟨fun h => ?_, fun h => ?_⟩
    · replace K := K.1 h
      exact mj_ret (v := none) ⟨dX7_setHome_20, rfl⟩ K
    · replace K := K.2 h
      refine mj_aload_n (k := 0) dX7_setHome_13 rfl rfl ?_
      obtain ⟨fs4, hffs4, x5, hxx5, K⟩ := K
      refine mj_get dX7_setHome_14 lf_Y7_setHome_21 hffs4 hxx5 ?_
      refine mj_iload_n (k := 1) dX7_setHome_17 rfl rfl ?_
      refine mj_iload_n (k := 2) dX7_setHome_18 rfl rfl ?_
      obtain ⟨n6, fn6, hfn6, hbn6, h0n6, h1n6, K⟩ := K
      replace K := K _ rfl
      refine mj_iast dX7_setHome_19 hfn6 hbn6 h0n6 h1n6 ?_
      generalize mx_wr σ (x5) (.inr (0, n6, upV fn6 (l1).toNat (mI l2))) = σ7 at K ⊢
      exact mj_ret (v := none) ⟨dX7_setHome_20, rfl⟩ K
theorem B_Y7_settle_0 {kb wb : Nat} {σ : mx_S} {Q : mx_R → Prop} {l0 : Nat} {l1 : Int} (K : ∃ (fs : List mx_V), sH σ (l0) = some (.inl (7, fs)) ∧ ∃ x2, fs[4]? = some (mI x2) ∧ ((512 : Int) ≤ x2 → mx_J Y7_settle kb wb 33 [some (mR l0), some (mI l1), none] [] σ Q) ∧ (¬ ((512 : Int) ≤ x2) → ∃ (fs : List mx_V), sH σ (l0) = some (.inl (7, fs)) ∧ ∃ x4, fs[4]? = some (mI x4) ∧ ∃ (fs : List mx_V), sH σ (l0) = some (.inl (7, fs)) ∧ 4 < fs.length ∧ sB σ ≤ l0 ∧ ∀ σ6, σ6 = mx_wr σ (l0) (.inl (7, fs.set 4 (mI (mx_w (x4 + (1 : Int)))))) → ∃ (fs : List mx_V), sH σ6 (l0) = some (.inl (7, fs)) ∧ ∃ x8, fs[4]? = some (mI x8) ∧ ∃ (fs : List mx_V), sH σ6 (l0) = some (.inl (7, fs)) ∧ ∃ (σ9 : mx_S), mx_MS Y7_fill [mR l0, mI (mx_w (x8 - (1 : Int))), mI ((0 : Int)), mI ((0 : Int)), mI ((0 : Int))] σ6 (.inl (none, σ9)) ∧ sK σ9 ≤ kb ∧ sW σ9 ≤ wb ∧ mx_J Y7_settle kb wb 33 [some (mR l0), some (mI l1), none] [] σ9 Q)) : mx_J Y7_settle kb wb 0 [some (mR l0), some (mI l1), none] [] σ Q := by
  refine mj_aload_n (k := 0) dX7_settle_0 rfl rfl ?_
  obtain ⟨fs1, hffs1, x2, hxx2, K⟩ := K
  refine mj_get dX7_settle_1 lf_Y7_settle_30 hffs1 hxx2 ?_
  refine mj_sipush (n := 512) dX7_settle_4 ⟨by decide, by decide⟩ (by decide) ?_
  refine mj_icmp_ge (tgt := 33) dX7_settle_7 (by decide) ⟨fun h => ?_, fun h => ?_⟩
  · replace K := K.1 h
    exact K
  · replace K := K.2 h
    refine mj_aload_n (k := 0) dX7_settle_10 rfl rfl ?_
    refine mj_dup dX7_settle_11 rfl ?_
    obtain ⟨fs3, hffs3, x4, hxx4, K⟩ := K
    refine mj_get dX7_settle_12 lf_Y7_settle_30 hffs3 hxx4 ?_
    refine mj_iconst dX7_settle_15 ⟨by decide, by decide⟩ ?_
    refine mj_iadd dX7_settle_16 ?_
    obtain ⟨fs5, hffs5, hlfs5, hbfs5, K⟩ := K
    replace K := K _ rfl
    refine mj_put dX7_settle_17 pf_Y7_settle_30 hffs5 hlfs5 hbfs5 ⟨rfl, rfl⟩ ?_
    generalize mx_wr σ (l0) (.inl (7, fs5.set 4 (mI (mx_w (x4 + (1 : Int)))))) = σ6 at K ⊢
    refine mj_aload_n (k := 0) dX7_settle_20 rfl rfl ?_
    refine mj_aload_n (k := 0) dX7_settle_21 rfl rfl ?_
    obtain ⟨fs7, hffs7, x8, hxx8, K⟩ := K
    refine mj_get dX7_settle_22 lf_Y7_settle_30 hffs7 hxx8 ?_
    refine mj_iconst dX7_settle_25 ⟨by decide, by decide⟩ ?_
    refine mj_isub dX7_settle_26 ?_
    refine mj_iconst dX7_settle_27 ⟨by decide, by decide⟩ ?_
    refine mj_iconst dX7_settle_28 ⟨by decide, by decide⟩ ?_
    refine mj_iconst dX7_settle_29 ⟨by decide, by decide⟩ ?_
    obtain ⟨fs10, hbfs10, K⟩ := K
    obtain ⟨σ9, hMσ9, hkσ9, hwσ9, K⟩ := K
    refine mj_callV (As := [mI (mx_w (x8 - (1 : Int))), mI ((0 : Int)), mI ((0 : Int)), mI ((0 : Int))]) (rest := []) (b := l0) dX7_settle_30 k_Y7_settle_34 rfl hbfs10 rfl (Nat.le_of_ble_eq_true rfl) hMσ9 hkσ9 hwσ9 ?_
    exact K
theorem B_Y7_settle_33 {kb wb : Nat} {σ : mx_S} {Q : mx_R → Prop} {l0 : Nat} {l1 : Int} (K : ∃ (fs : List mx_V), sH σ (l0) = some (.inl (7, fs)) ∧ ∃ x2, fs[4]? = some (mI x2) ∧ ∃ (fs : List mx_V), sH σ (l0) = some (.inl (7, fs)) ∧ ∃ (r4 : Int) (σ3 : mx_S), mx_MS Y7_isSegment [mR l0, mI (mx_w (x2 - (1 : Int)))] σ (.inl (some (mI r4), σ3)) ∧ sK σ3 ≤ kb ∧ sW σ3 ≤ wb ∧ (r4 = (0 : Int) → Q (.inl (none, σ3))) ∧ (¬ (r4 = (0 : Int)) → ∃ (fs : List mx_V), sH σ3 (l0) = some (.inl (7, fs)) ∧ ∃ x7, fs[0]? = some (mR x7) ∧ ∃ (n8 : Nat) (f : Nat → mx_V), sH σ3 (x7) = some (.inr (0, n8, f)) ∧ 0 ≤ mx_w (x2 - (1 : Int)) ∧ mx_w (x2 - (1 : Int)) < (n8 : Int) ∧ ∃ x9, f (mx_w (x2 - (1 : Int))).toNat = mI x9 ∧ ∃ (n10 : Nat) (f : Nat → mx_V), sH σ3 (x7) = some (.inr (0, n10, f)) ∧ sB σ3 ≤ x7 ∧ 0 ≤ mx_w (x2 - (1 : Int)) ∧ mx_w (x2 - (1 : Int)) < (n10 : Int) ∧ ∀ σ11, σ11 = mx_wr σ3 (x7) (.inr (0, n10, upV f (mx_w (x2 - (1 : Int))).toNat (mI (mx_w (x9 + (1 : Int)))))) → ∃ (fs : List mx_V), sH σ11 (l0) = some (.inl (7, fs)) ∧ ∃ (σ12 : mx_S), mx_MS Y7_setHome [mR l0, mI l1, mI (mx_w (x2 - (1 : Int)))] σ11 (.inl (none, σ12)) ∧ sK σ12 ≤ kb ∧ sW σ12 ≤ wb ∧ Q (.inl (none, σ12)))) : mx_J Y7_settle kb wb 33 [some (mR l0), some (mI l1), none] [] σ Q := by
  refine mj_aload_n (k := 0) dX7_settle_33 rfl rfl ?_
  obtain ⟨fs1, hffs1, x2, hxx2, K⟩ := K
  refine mj_get dX7_settle_34 lf_Y7_settle_30 hffs1 hxx2 ?_
  refine mj_iconst dX7_settle_37 ⟨by decide, by decide⟩ ?_
  refine mj_isub dX7_settle_38 ?_
  refine mj_istore_n (k := 2) (ls' := [some (mR l0), some (mI l1), some (mI (mx_w (x2 - (1 : Int))))]) dX7_settle_39 rfl (by decide) rfl ?_
  refine mj_aload_n (k := 0) dX7_settle_40 rfl rfl ?_
  refine mj_iload_n (k := 2) dX7_settle_41 rfl rfl ?_
  obtain ⟨fs5, hbfs5, K⟩ := K
  obtain ⟨r4, σ3, hMσ3, hkσ3, hwσ3, K⟩ := K
  refine mj_callV (As := [mI (mx_w (x2 - (1 : Int)))]) (rest := []) (b := l0) dX7_settle_42 k_Y7_settle_37 rfl hbfs5 rfl (Nat.le_of_ble_eq_true rfl) hMσ3 hkσ3 hwσ3 ?_
  refine mj_if_eq (tgt := 64) dX7_settle_45 (by decide) ⟨fun h => ?_, fun h => ?_⟩
  · replace K := K.1 h
    exact mj_ret (v := none) ⟨dX7_settle_64, rfl⟩ K
  · replace K := K.2 h
    refine mj_aload_n (k := 0) dX7_settle_48 rfl rfl ?_
    obtain ⟨fs6, hffs6, x7, hxx7, K⟩ := K
    refine mj_get dX7_settle_49 lf_Y7_settle_9 hffs6 hxx7 ?_
    refine mj_iload_n (k := 2) dX7_settle_52 rfl rfl ?_
    refine mj_dup2 dX7_settle_53 rfl rfl ?_
    obtain ⟨n8, fn8, hfn8, h0n8, h1n8, x9, hxx9, K⟩ := K
    refine mj_iald dX7_settle_54 hfn8 h0n8 h1n8 ?_
    rw [hxx9]
    refine mj_iconst dX7_settle_55 ⟨by decide, by decide⟩ ?_
    refine mj_iadd dX7_settle_56 ?_
    obtain ⟨n10, fn10, hfn10, hbn10, h0n10, h1n10, K⟩ := K
    replace K := K _ rfl
    refine mj_iast dX7_settle_57 hfn10 hbn10 h0n10 h1n10 ?_
    generalize mx_wr σ3 (x7) (.inr (0, n10, upV fn10 (mx_w (x2 - (1 : Int))).toNat (mI (mx_w (x9 + (1 : Int)))))) = σ11 at K ⊢
    refine mj_aload_n (k := 0) dX7_settle_58 rfl rfl ?_
    refine mj_iload_n (k := 1) dX7_settle_59 rfl rfl ?_
    refine mj_iload_n (k := 2) dX7_settle_60 rfl rfl ?_
    obtain ⟨fs13, hbfs13, K⟩ := K
    obtain ⟨σ12, hMσ12, hkσ12, hwσ12, K⟩ := K
    refine mj_callV (As := [mI l1, mI (mx_w (x2 - (1 : Int)))]) (rest := []) (b := l0) dX7_settle_61 k_Y7_settle_41 rfl hbfs13 rfl (Nat.le_of_ble_eq_true rfl) hMσ12 hkσ12 hwσ12 ?_
    exact mj_ret (v := none) ⟨dX7_settle_64, rfl⟩ K
theorem B_Y2_takeIn_0 {kb wb : Nat} {σ : mx_S} {Q : mx_R → Prop} {l0 : Nat} {l1 : Nat} (K : ∃ (fs : List mx_V), sH σ (l0) = some (.inl (2, fs)) ∧ ∃ x2, fs[5]? = some (mI x2) ∧ ∃ (fs : List mx_V), sH σ (l0) = some (.inl (2, fs)) ∧ ∃ x4, fs[0]? = some (mR x4) ∧ ∃ (fs : List mx_V), sH σ (x4) = some (.inl (9, fs)) ∧ ∃ (r6 : Nat) (σ5 : mx_S), mx_MS Y9_texts [mR x4] σ (.inl (some (mR r6), σ5)) ∧ sK σ5 ≤ kb ∧ sW σ5 ≤ wb ∧ ∃ (fs : List mx_V), sH σ5 (r6) = some (.inl (8, fs)) ∧ ∃ (σ8 : mx_S), mx_MS Y8_append [mR r6, mI x2, mR l1] σ5 (.inl (none, σ8)) ∧ sK σ8 ≤ kb ∧ sW σ8 ≤ wb ∧ ∃ (fs : List mx_V), sH σ8 (l0) = some (.inl (2, fs)) ∧ ∃ x11, fs[0]? = some (mR x11) ∧ ∃ (fs : List mx_V), sH σ8 (x11) = some (.inl (9, fs)) ∧ ∃ (σ12 : mx_S), mx_MS Y9_forgetOrder [mR x11] σ8 (.inl (none, σ12)) ∧ sK σ12 ≤ kb ∧ sW σ12 ≤ wb ∧ ∃ (fs : List mx_V), sH σ12 (l0) = some (.inl (2, fs)) ∧ ∃ x15, fs[3]? = some (mR x15) ∧ ∃ (fs : List mx_V), sH σ12 (x15) = some (.inl (7, fs)) ∧ ∃ (σ16 : mx_S), mx_MS Y7_settle [mR x15, mI x2] σ12 (.inl (none, σ16)) ∧ sK σ16 ≤ kb ∧ sW σ16 ≤ wb ∧ ∃ (fs : List mx_V), sH σ16 (l0) = some (.inl (2, fs)) ∧ ∃ x19, fs[5]? = some (mI x19) ∧ ∃ (fs : List mx_V), sH σ16 (l0) = some (.inl (2, fs)) ∧ 5 < fs.length ∧ sB σ16 ≤ l0 ∧ ∀ σ21, σ21 = mx_wr σ16 (l0) (.inl (2, fs.set 5 (mI (mx_w (x19 + (1 : Int)))))) → Q (.inl (some (mI x2), σ21))) : mx_J Y2_takeIn kb wb 0 [some (mR l0), some (mR l1), none] [] σ Q := by
  refine mj_aload_n (k := 0) dX2_takeIn_0 rfl rfl ?_
  obtain ⟨fs1, hffs1, x2, hxx2, K⟩ := K
  refine mj_get dX2_takeIn_1 lf_Y2_takeIn_64 hffs1 hxx2 ?_
  refine mj_istore_n (k := 2) (ls' := [some (mR l0), some (mR l1), some (mI x2)]) dX2_takeIn_4 rfl (by decide) rfl ?_
  refine mj_aload_n (k := 0) dX2_takeIn_5 rfl rfl ?_
  obtain ⟨fs3, hffs3, x4, hxx4, K⟩ := K
  refine mj_get dX2_takeIn_6 lf_Y2_takeIn_12 hffs3 hxx4 ?_
  obtain ⟨fs7, hbfs7, K⟩ := K
  obtain ⟨r6, σ5, hMσ5, hkσ5, hwσ5, K⟩ := K
  refine mj_callV (As := []) (rest := []) (b := x4) dX2_takeIn_9 k_Y2_takeIn_54 rfl hbfs7 rfl (Nat.le_of_ble_eq_true rfl) hMσ5 hkσ5 hwσ5 ?_
  refine mj_iload_n (k := 2) dX2_takeIn_12 rfl rfl ?_
  refine mj_aload_n (k := 1) dX2_takeIn_13 rfl rfl ?_
  obtain ⟨fs9, hbfs9, K⟩ := K
  obtain ⟨σ8, hMσ8, hkσ8, hwσ8, K⟩ := K
  refine mj_callV (As := [mI x2, mR l1]) (rest := []) (b := r6) dX2_takeIn_14 k_Y2_takeIn_68 rfl hbfs9 rfl (Nat.le_of_ble_eq_true rfl) hMσ8 hkσ8 hwσ8 ?_
  refine mj_aload_n (k := 0) dX2_takeIn_17 rfl rfl ?_
  obtain ⟨fs10, hffs10, x11, hxx11, K⟩ := K
  refine mj_get dX2_takeIn_18 lf_Y2_takeIn_12 hffs10 hxx11 ?_
  obtain ⟨fs13, hbfs13, K⟩ := K
  obtain ⟨σ12, hMσ12, hkσ12, hwσ12, K⟩ := K
  refine mj_callV (As := []) (rest := []) (b := x11) dX2_takeIn_21 k_Y2_takeIn_72 rfl hbfs13 rfl (Nat.le_of_ble_eq_true rfl) hMσ12 hkσ12 hwσ12 ?_
  refine mj_aload_n (k := 0) dX2_takeIn_24 rfl rfl ?_
  obtain ⟨fs14, hffs14, x15, hxx15, K⟩ := K
  refine mj_get dX2_takeIn_25 lf_Y2_takeIn_29 hffs14 hxx15 ?_
  refine mj_iload_n (k := 2) dX2_takeIn_28 rfl rfl ?_
  obtain ⟨fs17, hbfs17, K⟩ := K
  obtain ⟨σ16, hMσ16, hkσ16, hwσ16, K⟩ := K
  refine mj_callV (As := [mI x2]) (rest := []) (b := x15) dX2_takeIn_29 k_Y2_takeIn_75 rfl hbfs17 rfl (Nat.le_of_ble_eq_true rfl) hMσ16 hkσ16 hwσ16 ?_
  refine mj_aload_n (k := 0) dX2_takeIn_32 rfl rfl ?_
  refine mj_dup dX2_takeIn_33 rfl ?_
  obtain ⟨fs18, hffs18, x19, hxx19, K⟩ := K
  refine mj_get dX2_takeIn_34 lf_Y2_takeIn_64 hffs18 hxx19 ?_
  refine mj_iconst dX2_takeIn_37 ⟨by decide, by decide⟩ ?_
  refine mj_iadd dX2_takeIn_38 ?_
  obtain ⟨fs20, hffs20, hlfs20, hbfs20, K⟩ := K
  replace K := K _ rfl
  refine mj_put dX2_takeIn_39 pf_Y2_takeIn_64 hffs20 hlfs20 hbfs20 ⟨rfl, rfl⟩ ?_
  generalize mx_wr σ16 (l0) (.inl (2, fs20.set 5 (mI (mx_w (x19 + (1 : Int)))))) = σ21 at K ⊢
  refine mj_iload_n (k := 2) dX2_takeIn_42 rfl rfl ?_
  exact mj_ret (v := some (mI x2)) ⟨dX2_takeIn_43, .int, rfl, rfl⟩ K
theorem B_Y8_numberAt_0 {kb wb : Nat} {σ : mx_S} {Q : mx_R → Prop} {l0 : Nat} {l1 : Int} (K : ∃ (fs : List mx_V), sH σ (l0) = some (.inl (8, fs)) ∧ ∃ (r2 : Int) (σ1 : mx_S), mx_MS Y8_isSlot [mR l0, mI l1] σ (.inl (some (mI r2), σ1)) ∧ sK σ1 ≤ kb ∧ sW σ1 ≤ wb ∧ (r2 = (0 : Int) → Q (.inl (some (mI ((-1 : Int))), σ1))) ∧ (¬ (r2 = (0 : Int)) → ∃ (fs : List mx_V), sH σ1 (l0) = some (.inl (8, fs)) ∧ ∃ x5, fs[0]? = some (mR x5) ∧ ∃ (n6 : Nat) (f : Nat → mx_V), sH σ1 (x5) = some (.inr (0, n6, f)) ∧ 0 ≤ l1 ∧ l1 < (n6 : Int) ∧ ∃ x7, f (l1).toNat = mI x7 ∧ Q (.inl (some (mI x7), σ1)))) : mx_J Y8_numberAt kb wb 0 [some (mR l0), some (mI l1)] [] σ Q := by
  refine mj_aload_n (k := 0) dX8_numberAt_0 rfl rfl ?_
  refine mj_iload_n (k := 1) dX8_numberAt_1 rfl rfl ?_
  obtain ⟨fs3, hbfs3, K⟩ := K
  obtain ⟨r2, σ1, hMσ1, hkσ1, hwσ1, K⟩ := K
  refine mj_callV (As := [mI l1]) (rest := []) (b := l0) dX8_numberAt_2 k_Y8_numberAt_30 rfl hbfs3 rfl (Nat.le_of_ble_eq_true rfl) hMσ1 hkσ1 hwσ1 ?_
  refine mj_if_eq (tgt := 17) dX8_numberAt_5 (by decide) ⟨fun h => ?_, fun h => ?_⟩
  · replace K := K.1 h
    refine mj_iconst dX8_numberAt_17 ⟨by decide, by decide⟩ ?_
    exact mj_ret (v := some (mI ((-1 : Int)))) ⟨dX8_numberAt_18, .int, rfl, rfl⟩ K
  · replace K := K.2 h
    refine mj_aload_n (k := 0) dX8_numberAt_8 rfl rfl ?_
    obtain ⟨fs4, hffs4, x5, hxx5, K⟩ := K
    refine mj_get dX8_numberAt_9 lf_Y8_numberAt_9 hffs4 hxx5 ?_
    refine mj_iload_n (k := 1) dX8_numberAt_12 rfl rfl ?_
    obtain ⟨n6, fn6, hfn6, h0n6, h1n6, x7, hxx7, K⟩ := K
    refine mj_iald dX8_numberAt_13 hfn6 h0n6 h1n6 ?_
    rw [hxx7]
    refine mj_goto (tgt := 18) dX8_numberAt_14 (by decide) ?_
    exact mj_ret (v := some (mI x7)) ⟨dX8_numberAt_18, .int, rfl, rfl⟩ K
theorem B_Y7_homeOf_0 {kb wb : Nat} {σ : mx_S} {Q : mx_R → Prop} {l0 : Nat} {l1 : Int} (K : (l1 < (0 : Int) → Q (.inl (some (mI ((-1 : Int))), σ))) ∧ (¬ (l1 < (0 : Int)) → ∃ (fs : List mx_V), sH σ (l0) = some (.inl (7, fs)) ∧ ∃ x2, fs[3]? = some (mR x2) ∧ ∃ (kd n3 : Nat) (f : Nat → mx_V), sH σ (x2) = some (.inr (kd, n3, f)) ∧ ((n3 : Int) ≤ l1 → Q (.inl (some (mI ((-1 : Int))), σ))) ∧ (¬ ((n3 : Int) ≤ l1) → ∃ (fs : List mx_V), sH σ (l0) = some (.inl (7, fs)) ∧ ∃ x5, fs[3]? = some (mR x5) ∧ ∃ (n6 : Nat) (f : Nat → mx_V), sH σ (x5) = some (.inr (0, n6, f)) ∧ 0 ≤ l1 ∧ l1 < (n6 : Int) ∧ ∃ x7, f (l1).toNat = mI x7 ∧ Q (.inl (some (mI x7), σ))))) : mx_J Y7_homeOf kb wb 0 [some (mR l0), some (mI l1)] [] σ Q := by
  refine mj_iload_n (k := 1) dX7_homeOf_0 rfl rfl ?_
  refine mj_if_lt (tgt := 22) dX7_homeOf_1 (by decide) ⟨fun h => ?_, fun h => ?_⟩
  · replace K := K.1 h
    refine mj_iconst dX7_homeOf_22 ⟨by decide, by decide⟩ ?_
    exact mj_ret (v := some (mI ((-1 : Int)))) ⟨dX7_homeOf_23, .int, rfl, rfl⟩ K
  · replace K := K.2 h
    refine mj_iload_n (k := 1) dX7_homeOf_4 rfl rfl ?_
    refine mj_aload_n (k := 0) dX7_homeOf_5 rfl rfl ?_
    obtain ⟨fs1, hffs1, x2, hxx2, K⟩ := K
    refine mj_get dX7_homeOf_6 lf_Y7_homeOf_21 hffs1 hxx2 ?_
    obtain ⟨kd, n3, fn3, hfn3, K⟩ := K
    refine mj_alen dX7_homeOf_9 hfn3 ?_
    refine mj_icmp_ge (tgt := 22) dX7_homeOf_10 (by decide) ⟨fun h => ?_, fun h => ?_⟩
    · replace K := K.1 h
      refine mj_iconst dX7_homeOf_22 ⟨by decide, by decide⟩ ?_
      exact mj_ret (v := some (mI ((-1 : Int)))) ⟨dX7_homeOf_23, .int, rfl, rfl⟩ K
    · replace K := K.2 h
      refine mj_aload_n (k := 0) dX7_homeOf_13 rfl rfl ?_
      obtain ⟨fs4, hffs4, x5, hxx5, K⟩ := K
      refine mj_get dX7_homeOf_14 lf_Y7_homeOf_21 hffs4 hxx5 ?_
      refine mj_iload_n (k := 1) dX7_homeOf_17 rfl rfl ?_
      obtain ⟨n6, fn6, hfn6, h0n6, h1n6, x7, hxx7, K⟩ := K
      refine mj_iald dX7_homeOf_18 hfn6 h0n6 h1n6 ?_
      rw [hxx7]
      refine mj_goto (tgt := 23) dX7_homeOf_19 (by decide) ?_
      exact mj_ret (v := some (mI x7)) ⟨dX7_homeOf_23, .int, rfl, rfl⟩ K
theorem B_Y7_bury_0 {kb wb : Nat} {σ : mx_S} {Q : mx_R → Prop} {l0 : Nat} {l1 : Int} {l2 : Int} (K : ∃ (fs : List mx_V), sH σ (l0) = some (.inl (7, fs)) ∧ ∃ (r2 : Int) (σ1 : mx_S), mx_MS Y7_homeOf [mR l0, mI l1] σ (.inl (some (mI r2), σ1)) ∧ sK σ1 ≤ kb ∧ sW σ1 ≤ wb ∧ ∃ (fs : List mx_V), sH σ1 (l0) = some (.inl (7, fs)) ∧ ∃ (r5 : Int) (σ4 : mx_S), mx_MS Y7_isSegment [mR l0, mI r2] σ1 (.inl (some (mI r5), σ4)) ∧ sK σ4 ≤ kb ∧ sW σ4 ≤ wb ∧ (r5 = (0 : Int) → mx_J Y7_bury kb wb 44 [some (mR l0), some (mI l1), some (mI l2), some (mI r2)] [] σ4 Q) ∧ (¬ (r5 = (0 : Int)) → ∃ (fs : List mx_V), sH σ4 (l0) = some (.inl (7, fs)) ∧ ∃ x8, fs[0]? = some (mR x8) ∧ ∃ (n9 : Nat) (f : Nat → mx_V), sH σ4 (x8) = some (.inr (0, n9, f)) ∧ 0 ≤ r2 ∧ r2 < (n9 : Int) ∧ ∃ x10, f (r2).toNat = mI x10 ∧ ∃ (n11 : Nat) (f : Nat → mx_V), sH σ4 (x8) = some (.inr (0, n11, f)) ∧ sB σ4 ≤ x8 ∧ 0 ≤ r2 ∧ r2 < (n11 : Int) ∧ ∀ σ12, σ12 = mx_wr σ4 (x8) (.inr (0, n11, upV f (r2).toNat (mI (mx_w (x10 - (1 : Int)))))) → ∃ (fs : List mx_V), sH σ12 (l0) = some (.inl (7, fs)) ∧ ∃ x14, fs[1]? = some (mR x14) ∧ ∃ (n15 : Nat) (f : Nat → mx_V), sH σ12 (x14) = some (.inr (0, n15, f)) ∧ 0 ≤ r2 ∧ r2 < (n15 : Int) ∧ ∃ x16, f (r2).toNat = mI x16 ∧ ∃ (n17 : Nat) (f : Nat → mx_V), sH σ12 (x14) = some (.inr (0, n17, f)) ∧ sB σ12 ≤ x14 ∧ 0 ≤ r2 ∧ r2 < (n17 : Int) ∧ ∀ σ18, σ18 = mx_wr σ12 (x14) (.inr (0, n17, upV f (r2).toNat (mI (mx_w (x16 + (1 : Int)))))) → ∃ (fs : List mx_V), sH σ18 (l0) = some (.inl (7, fs)) ∧ ∃ x20, fs[2]? = some (mR x20) ∧ ∃ (n21 : Nat) (f : Nat → mx_V), sH σ18 (x20) = some (.inr (0, n21, f)) ∧ 0 ≤ r2 ∧ r2 < (n21 : Int) ∧ ∃ x22, f (r2).toNat = mI x22 ∧ ∃ (n23 : Nat) (f : Nat → mx_V), sH σ18 (x20) = some (.inr (0, n23, f)) ∧ sB σ18 ≤ x20 ∧ 0 ≤ r2 ∧ r2 < (n23 : Int) ∧ ∀ σ24, σ24 = mx_wr σ18 (x20) (.inr (0, n23, upV f (r2).toNat (mI (mx_w (x22 + l2))))) → mx_J Y7_bury kb wb 44 [some (mR l0), some (mI l1), some (mI l2), some (mI r2)] [] σ24 Q)) : mx_J Y7_bury kb wb 0 [some (mR l0), some (mI l1), some (mI l2), none] [] σ Q := by
  refine mj_aload_n (k := 0) dX7_bury_0 rfl rfl ?_
  refine mj_iload_n (k := 1) dX7_bury_1 rfl rfl ?_
  obtain ⟨fs3, hbfs3, K⟩ := K
  obtain ⟨r2, σ1, hMσ1, hkσ1, hwσ1, K⟩ := K
  refine mj_callV (As := [mI l1]) (rest := []) (b := l0) dX7_bury_2 k_Y7_bury_45 rfl hbfs3 rfl (Nat.le_of_ble_eq_true rfl) hMσ1 hkσ1 hwσ1 ?_
  refine mj_istore_n (k := 3) (ls' := [some (mR l0), some (mI l1), some (mI l2), some (mI r2)]) dX7_bury_5 rfl (by decide) rfl ?_
  refine mj_aload_n (k := 0) dX7_bury_6 rfl rfl ?_
  refine mj_iload_n (k := 3) dX7_bury_7 rfl rfl ?_
  obtain ⟨fs6, hbfs6, K⟩ := K
  obtain ⟨r5, σ4, hMσ4, hkσ4, hwσ4, K⟩ := K
  refine mj_callV (As := [mI r2]) (rest := []) (b := l0) dX7_bury_8 k_Y7_bury_37 rfl hbfs6 rfl (Nat.le_of_ble_eq_true rfl) hMσ4 hkσ4 hwσ4 ?_
  refine mj_if_eq (tgt := 44) dX7_bury_11 (by decide) ⟨fun h => ?_, fun h => ?_⟩
  · replace K := K.1 h
    exact K
  · replace K := K.2 h
    refine mj_aload_n (k := 0) dX7_bury_14 rfl rfl ?_
    obtain ⟨fs7, hffs7, x8, hxx8, K⟩ := K
    refine mj_get dX7_bury_15 lf_Y7_bury_9 hffs7 hxx8 ?_
    refine mj_iload_n (k := 3) dX7_bury_18 rfl rfl ?_
    refine mj_dup2 dX7_bury_19 rfl rfl ?_
    obtain ⟨n9, fn9, hfn9, h0n9, h1n9, x10, hxx10, K⟩ := K
    refine mj_iald dX7_bury_20 hfn9 h0n9 h1n9 ?_
    rw [hxx10]
    refine mj_iconst dX7_bury_21 ⟨by decide, by decide⟩ ?_
    refine mj_isub dX7_bury_22 ?_
    obtain ⟨n11, fn11, hfn11, hbn11, h0n11, h1n11, K⟩ := K
    replace K := K _ rfl
    refine mj_iast dX7_bury_23 hfn11 hbn11 h0n11 h1n11 ?_
    generalize mx_wr σ4 (x8) (.inr (0, n11, upV fn11 (r2).toNat (mI (mx_w (x10 - (1 : Int)))))) = σ12 at K ⊢
    refine mj_aload_n (k := 0) dX7_bury_24 rfl rfl ?_
    obtain ⟨fs13, hffs13, x14, hxx14, K⟩ := K
    refine mj_get dX7_bury_25 lf_Y7_bury_15 hffs13 hxx14 ?_
    refine mj_iload_n (k := 3) dX7_bury_28 rfl rfl ?_
    refine mj_dup2 dX7_bury_29 rfl rfl ?_
    obtain ⟨n15, fn15, hfn15, h0n15, h1n15, x16, hxx16, K⟩ := K
    refine mj_iald dX7_bury_30 hfn15 h0n15 h1n15 ?_
    rw [hxx16]
    refine mj_iconst dX7_bury_31 ⟨by decide, by decide⟩ ?_
    refine mj_iadd dX7_bury_32 ?_
    obtain ⟨n17, fn17, hfn17, hbn17, h0n17, h1n17, K⟩ := K
    replace K := K _ rfl
    refine mj_iast dX7_bury_33 hfn17 hbn17 h0n17 h1n17 ?_
    generalize mx_wr σ12 (x14) (.inr (0, n17, upV fn17 (r2).toNat (mI (mx_w (x16 + (1 : Int)))))) = σ18 at K ⊢
    refine mj_aload_n (k := 0) dX7_bury_34 rfl rfl ?_
    obtain ⟨fs19, hffs19, x20, hxx20, K⟩ := K
    refine mj_get dX7_bury_35 lf_Y7_bury_18 hffs19 hxx20 ?_
    refine mj_iload_n (k := 3) dX7_bury_38 rfl rfl ?_
    refine mj_dup2 dX7_bury_39 rfl rfl ?_
    obtain ⟨n21, fn21, hfn21, h0n21, h1n21, x22, hxx22, K⟩ := K
    refine mj_iald dX7_bury_40 hfn21 h0n21 h1n21 ?_
    rw [hxx22]
    refine mj_iload_n (k := 2) dX7_bury_41 rfl rfl ?_
    refine mj_iadd dX7_bury_42 ?_
    obtain ⟨n23, fn23, hfn23, hbn23, h0n23, h1n23, K⟩ := K
    replace K := K _ rfl
    refine mj_iast dX7_bury_43 hfn23 hbn23 h0n23 h1n23 ?_
    generalize mx_wr σ18 (x20) (.inr (0, n23, upV fn23 (r2).toNat (mI (mx_w (x22 + l2))))) = σ24 at K ⊢
    exact K
theorem B_Y7_bury_44 {kb wb : Nat} {σ : mx_S} {Q : mx_R → Prop} {l0 : Nat} {l1 : Int} {l2 : Int} {l3 : Int} (K : ∃ (fs : List mx_V), sH σ (l0) = some (.inl (7, fs)) ∧ ∃ (σ1 : mx_S), mx_MS Y7_setHome [mR l0, mI l1, mI ((-1 : Int))] σ (.inl (none, σ1)) ∧ sK σ1 ≤ kb ∧ sW σ1 ≤ wb ∧ Q (.inl (none, σ1))) : mx_J Y7_bury kb wb 44 [some (mR l0), some (mI l1), some (mI l2), some (mI l3)] [] σ Q := by
  refine mj_aload_n (k := 0) dX7_bury_44 rfl rfl ?_
  refine mj_iload_n (k := 1) dX7_bury_45 rfl rfl ?_
  refine mj_iconst dX7_bury_46 ⟨by decide, by decide⟩ ?_
  obtain ⟨fs2, hbfs2, K⟩ := K
  obtain ⟨σ1, hMσ1, hkσ1, hwσ1, K⟩ := K
  refine mj_callV (As := [mI l1, mI ((-1 : Int))]) (rest := []) (b := l0) dX7_bury_47 k_Y7_bury_41 rfl hbfs2 rfl (Nat.le_of_ble_eq_true rfl) hMσ1 hkσ1 hwσ1 ?_
  exact mj_ret (v := none) ⟨dX7_bury_50, rfl⟩ K
theorem B_Y2_bury_0 {kb wb : Nat} {σ : mx_S} {Q : mx_R → Prop} {l0 : Nat} {l1 : Int} (K : ∃ (fs : List mx_V), sH σ (l0) = some (.inl (2, fs)) ∧ ∃ x2, fs[3]? = some (mR x2) ∧ ∃ (fs : List mx_V), sH σ (l0) = some (.inl (2, fs)) ∧ ∃ x4, fs[0]? = some (mR x4) ∧ ∃ (fs : List mx_V), sH σ (x4) = some (.inl (9, fs)) ∧ ∃ (r6 : Nat) (σ5 : mx_S), mx_MS Y9_texts [mR x4] σ (.inl (some (mR r6), σ5)) ∧ sK σ5 ≤ kb ∧ sW σ5 ≤ wb ∧ ∃ (fs : List mx_V), sH σ5 (r6) = some (.inl (8, fs)) ∧ ∃ (r9 : Int) (σ8 : mx_S), mx_MS Y8_numberAt [mR r6, mI l1] σ5 (.inl (some (mI r9), σ8)) ∧ sK σ8 ≤ kb ∧ sW σ8 ≤ wb ∧ ∃ (fs : List mx_V), sH σ8 (l0) = some (.inl (2, fs)) ∧ ∃ x12, fs[0]? = some (mR x12) ∧ ∃ (fs : List mx_V), sH σ8 (x12) = some (.inl (9, fs)) ∧ ∃ (r14 : Nat) (σ13 : mx_S), mx_MS Y9_texts [mR x12] σ8 (.inl (some (mR r14), σ13)) ∧ sK σ13 ≤ kb ∧ sW σ13 ≤ wb ∧ ∃ (fs : List mx_V), sH σ13 (r14) = some (.inl (8, fs)) ∧ ∃ (r17 : Int) (σ16 : mx_S), mx_MS Y8_sizeAt [mR r14, mI l1] σ13 (.inl (some (mI r17), σ16)) ∧ sK σ16 ≤ kb ∧ sW σ16 ≤ wb ∧ ∃ (fs : List mx_V), sH σ16 (x2) = some (.inl (7, fs)) ∧ ∃ (σ19 : mx_S), mx_MS Y7_bury [mR x2, mI r9, mI r17] σ16 (.inl (none, σ19)) ∧ sK σ19 ≤ kb ∧ sW σ19 ≤ wb ∧ Q (.inl (none, σ19))) : mx_J Y2_bury kb wb 0 [some (mR l0), some (mI l1)] [] σ Q := by
  refine mj_aload_n (k := 0) dX2_bury_0 rfl rfl ?_
  obtain ⟨fs1, hffs1, x2, hxx2, K⟩ := K
  refine mj_get dX2_bury_1 lf_Y2_bury_29 hffs1 hxx2 ?_
  refine mj_aload_n (k := 0) dX2_bury_4 rfl rfl ?_
  obtain ⟨fs3, hffs3, x4, hxx4, K⟩ := K
  refine mj_get dX2_bury_5 lf_Y2_bury_12 hffs3 hxx4 ?_
  obtain ⟨fs7, hbfs7, K⟩ := K
  obtain ⟨r6, σ5, hMσ5, hkσ5, hwσ5, K⟩ := K
  refine mj_callV (As := []) (rest := [mR x2]) (b := x4) dX2_bury_8 k_Y2_bury_54 rfl hbfs7 rfl (Nat.le_of_ble_eq_true rfl) hMσ5 hkσ5 hwσ5 ?_
  refine mj_iload_n (k := 1) dX2_bury_11 rfl rfl ?_
  obtain ⟨fs10, hbfs10, K⟩ := K
  obtain ⟨r9, σ8, hMσ8, hkσ8, hwσ8, K⟩ := K
  refine mj_callV (As := [mI l1]) (rest := [mR x2]) (b := r6) dX2_bury_12 k_Y2_bury_86 rfl hbfs10 rfl (Nat.le_of_ble_eq_true rfl) hMσ8 hkσ8 hwσ8 ?_
  refine mj_aload_n (k := 0) dX2_bury_15 rfl rfl ?_
  obtain ⟨fs11, hffs11, x12, hxx12, K⟩ := K
  refine mj_get dX2_bury_16 lf_Y2_bury_12 hffs11 hxx12 ?_
  obtain ⟨fs15, hbfs15, K⟩ := K
  obtain ⟨r14, σ13, hMσ13, hkσ13, hwσ13, K⟩ := K
  refine mj_callV (As := []) (rest := [mI r9, mR x2]) (b := x12) dX2_bury_19 k_Y2_bury_54 rfl hbfs15 rfl (Nat.le_of_ble_eq_true rfl) hMσ13 hkσ13 hwσ13 ?_
  refine mj_iload_n (k := 1) dX2_bury_22 rfl rfl ?_
  obtain ⟨fs18, hbfs18, K⟩ := K
  obtain ⟨r17, σ16, hMσ16, hkσ16, hwσ16, K⟩ := K
  refine mj_callV (As := [mI l1]) (rest := [mI r9, mR x2]) (b := r14) dX2_bury_23 k_Y2_bury_96 rfl hbfs18 rfl (Nat.le_of_ble_eq_true rfl) hMσ16 hkσ16 hwσ16 ?_
  obtain ⟨fs20, hbfs20, K⟩ := K
  obtain ⟨σ19, hMσ19, hkσ19, hwσ19, K⟩ := K
  refine mj_callV (As := [mI r9, mI r17]) (rest := []) (b := x2) dX2_bury_26 k_Y2_bury_99 rfl hbfs20 rfl (Nat.le_of_ble_eq_true rfl) hMσ19 hkσ19 hwσ19 ?_
  exact mj_ret (v := none) ⟨dX2_bury_29, rfl⟩ K
theorem B_Y2_widen_0 {kb wb : Nat} {σ : mx_S} {Q : mx_R → Prop} {l0 : Nat} {l1 : Int} {l2 : Int} {l3 : Nat} (K : ∃ (fs : List mx_V), sH σ (l0) = some (.inl (2, fs)) ∧ ∃ (σ1 : mx_S), mx_MS Y2_bury [mR l0, mI l1] σ (.inl (none, σ1)) ∧ sK σ1 ≤ kb ∧ sW σ1 ≤ wb ∧ ∃ (fs : List mx_V), sH σ1 (l0) = some (.inl (2, fs)) ∧ ∃ x4, fs[0]? = some (mR x4) ∧ ∃ (fs : List mx_V), sH σ1 (x4) = some (.inl (9, fs)) ∧ ∃ (r6 : Nat) (σ5 : mx_S), mx_MS Y9_texts [mR x4] σ1 (.inl (some (mR r6), σ5)) ∧ sK σ5 ≤ kb ∧ sW σ5 ≤ wb ∧ ∃ (fs : List mx_V), sH σ5 (r6) = some (.inl (8, fs)) ∧ ∃ (σ8 : mx_S), mx_MS Y8_widen [mR r6, mI l1, mI l2, mR l3] σ5 (.inl (none, σ8)) ∧ sK σ8 ≤ kb ∧ sW σ8 ≤ wb ∧ ∃ (fs : List mx_V), sH σ8 (l0) = some (.inl (2, fs)) ∧ ∃ x11, fs[0]? = some (mR x11) ∧ ∃ (fs : List mx_V), sH σ8 (x11) = some (.inl (9, fs)) ∧ ∃ (σ12 : mx_S), mx_MS Y9_forgetOrder [mR x11] σ8 (.inl (none, σ12)) ∧ sK σ12 ≤ kb ∧ sW σ12 ≤ wb ∧ ∃ (fs : List mx_V), sH σ12 (l0) = some (.inl (2, fs)) ∧ ∃ x15, fs[3]? = some (mR x15) ∧ ∃ (fs : List mx_V), sH σ12 (l0) = some (.inl (2, fs)) ∧ ∃ x17, fs[0]? = some (mR x17) ∧ ∃ (fs : List mx_V), sH σ12 (x17) = some (.inl (9, fs)) ∧ ∃ (r19 : Nat) (σ18 : mx_S), mx_MS Y9_texts [mR x17] σ12 (.inl (some (mR r19), σ18)) ∧ sK σ18 ≤ kb ∧ sW σ18 ≤ wb ∧ ∃ (fs : List mx_V), sH σ18 (r19) = some (.inl (8, fs)) ∧ ∃ (r22 : Int) (σ21 : mx_S), mx_MS Y8_numberAt [mR r19, mI l1] σ18 (.inl (some (mI r22), σ21)) ∧ sK σ21 ≤ kb ∧ sW σ21 ≤ wb ∧ ∃ (fs : List mx_V), sH σ21 (x15) = some (.inl (7, fs)) ∧ ∃ (σ24 : mx_S), mx_MS Y7_settle [mR x15, mI r22] σ21 (.inl (none, σ24)) ∧ sK σ24 ≤ kb ∧ sW σ24 ≤ wb ∧ Q (.inl (none, σ24))) : mx_J Y2_widen kb wb 0 [some (mR l0), some (mI l1), some (mI l2), some (mR l3)] [] σ Q := by
  refine mj_aload_n (k := 0) dX2_widen_0 rfl rfl ?_
  refine mj_iload_n (k := 1) dX2_widen_1 rfl rfl ?_
  obtain ⟨fs2, hbfs2, K⟩ := K
  obtain ⟨σ1, hMσ1, hkσ1, hwσ1, K⟩ := K
  refine mj_callV (As := [mI l1]) (rest := []) (b := l0) dX2_widen_2 k_Y2_widen_79 rfl hbfs2 rfl (Nat.le_of_ble_eq_true rfl) hMσ1 hkσ1 hwσ1 ?_
  refine mj_aload_n (k := 0) dX2_widen_5 rfl rfl ?_
  obtain ⟨fs3, hffs3, x4, hxx4, K⟩ := K
  refine mj_get dX2_widen_6 lf_Y2_widen_12 hffs3 hxx4 ?_
  obtain ⟨fs7, hbfs7, K⟩ := K
  obtain ⟨r6, σ5, hMσ5, hkσ5, hwσ5, K⟩ := K
  refine mj_callV (As := []) (rest := []) (b := x4) dX2_widen_9 k_Y2_widen_54 rfl hbfs7 rfl (Nat.le_of_ble_eq_true rfl) hMσ5 hkσ5 hwσ5 ?_
  refine mj_iload_n (k := 1) dX2_widen_12 rfl rfl ?_
  refine mj_iload_n (k := 2) dX2_widen_13 rfl rfl ?_
  refine mj_aload_n (k := 3) dX2_widen_14 rfl rfl ?_
  obtain ⟨fs9, hbfs9, K⟩ := K
  obtain ⟨σ8, hMσ8, hkσ8, hwσ8, K⟩ := K
  refine mj_callV (As := [mI l1, mI l2, mR l3]) (rest := []) (b := r6) dX2_widen_15 k_Y2_widen_82 rfl hbfs9 rfl (Nat.le_of_ble_eq_true rfl) hMσ8 hkσ8 hwσ8 ?_
  refine mj_aload_n (k := 0) dX2_widen_18 rfl rfl ?_
  obtain ⟨fs10, hffs10, x11, hxx11, K⟩ := K
  refine mj_get dX2_widen_19 lf_Y2_widen_12 hffs10 hxx11 ?_
  obtain ⟨fs13, hbfs13, K⟩ := K
  obtain ⟨σ12, hMσ12, hkσ12, hwσ12, K⟩ := K
  refine mj_callV (As := []) (rest := []) (b := x11) dX2_widen_22 k_Y2_widen_72 rfl hbfs13 rfl (Nat.le_of_ble_eq_true rfl) hMσ12 hkσ12 hwσ12 ?_
  refine mj_aload_n (k := 0) dX2_widen_25 rfl rfl ?_
  obtain ⟨fs14, hffs14, x15, hxx15, K⟩ := K
  refine mj_get dX2_widen_26 lf_Y2_widen_29 hffs14 hxx15 ?_
  refine mj_aload_n (k := 0) dX2_widen_29 rfl rfl ?_
  obtain ⟨fs16, hffs16, x17, hxx17, K⟩ := K
  refine mj_get dX2_widen_30 lf_Y2_widen_12 hffs16 hxx17 ?_
  obtain ⟨fs20, hbfs20, K⟩ := K
  obtain ⟨r19, σ18, hMσ18, hkσ18, hwσ18, K⟩ := K
  refine mj_callV (As := []) (rest := [mR x15]) (b := x17) dX2_widen_33 k_Y2_widen_54 rfl hbfs20 rfl (Nat.le_of_ble_eq_true rfl) hMσ18 hkσ18 hwσ18 ?_
  refine mj_iload_n (k := 1) dX2_widen_36 rfl rfl ?_
  obtain ⟨fs23, hbfs23, K⟩ := K
  obtain ⟨r22, σ21, hMσ21, hkσ21, hwσ21, K⟩ := K
  refine mj_callV (As := [mI l1]) (rest := [mR x15]) (b := r19) dX2_widen_37 k_Y2_widen_86 rfl hbfs23 rfl (Nat.le_of_ble_eq_true rfl) hMσ21 hkσ21 hwσ21 ?_
  obtain ⟨fs25, hbfs25, K⟩ := K
  obtain ⟨σ24, hMσ24, hkσ24, hwσ24, K⟩ := K
  refine mj_callV (As := [mI r22]) (rest := []) (b := x15) dX2_widen_40 k_Y2_widen_75 rfl hbfs25 rfl (Nat.le_of_ble_eq_true rfl) hMσ24 hkσ24 hwσ24 ?_
  exact mj_ret (v := none) ⟨dX2_widen_43, rfl⟩ K
theorem B_Y2_snapshotsKept_0 {kb wb : Nat} {σ : mx_S} {Q : mx_R → Prop} {l0 : Nat} (K : mx_J Y2_snapshotsKept kb wb 4 [some (mR l0), some (mI ((0 : Int))), some (mI ((0 : Int)))] [] σ Q) : mx_J Y2_snapshotsKept kb wb 0 [some (mR l0), none, none] [] σ Q := by
  refine mj_iconst dX2_snapshotsKept_0 ⟨by decide, by decide⟩ ?_
  refine mj_istore_n (k := 1) (ls' := [some (mR l0), some (mI ((0 : Int))), none]) dX2_snapshotsKept_1 rfl (by decide) rfl ?_
  refine mj_iconst dX2_snapshotsKept_2 ⟨by decide, by decide⟩ ?_
  refine mj_istore_n (k := 2) (ls' := [some (mR l0), some (mI ((0 : Int))), some (mI ((0 : Int)))]) dX2_snapshotsKept_3 rfl (by decide) rfl ?_
  exact K
theorem B_Y2_snapshotsKept_4 {kb wb : Nat} {σ : mx_S} {Q : mx_R → Prop} {l0 : Nat} {l1 : Int} {l2 : Int} (K : ∃ (fs : List mx_V), sH σ (l0) = some (.inl (2, fs)) ∧ ∃ x2, fs[2]? = some (mR x2) ∧ ∃ (kd n3 : Nat) (f : Nat → mx_V), sH σ (x2) = some (.inr (kd, n3, f)) ∧ ((n3 : Int) ≤ l2 → Q (.inl (some (mI l1), σ))) ∧ (¬ ((n3 : Int) ≤ l2) → ∃ (fs : List mx_V), sH σ (l0) = some (.inl (2, fs)) ∧ ∃ x5, fs[2]? = some (mR x5) ∧ ∃ (n6 : Nat) (f : Nat → mx_V), sH σ (x5) = some (.inr (0, n6, f)) ∧ 0 ≤ l2 ∧ l2 < (n6 : Int) ∧ ∃ x7, f (l2).toNat = mI x7 ∧ (x7 = (-1 : Int) → mx_J Y2_snapshotsKept kb wb 26 [some (mR l0), some (mI l1), some (mI l2)] [] σ Q) ∧ (¬ (x7 = (-1 : Int)) → mx_J Y2_snapshotsKept kb wb 26 [some (mR l0), some (mI (mx_w (l1 + (1 : Int)))), some (mI l2)] [] σ Q))) : mx_J Y2_snapshotsKept kb wb 4 [some (mR l0), some (mI l1), some (mI l2)] [] σ Q := by
  refine mj_iload_n (k := 2) dX2_snapshotsKept_4 rfl rfl ?_
  refine mj_aload_n (k := 0) dX2_snapshotsKept_5 rfl rfl ?_
  obtain ⟨fs1, hffs1, x2, hxx2, K⟩ := K
  refine mj_get dX2_snapshotsKept_6 lf_Y2_snapshotsKept_22 hffs1 hxx2 ?_
  obtain ⟨kd, n3, fn3, hfn3, K⟩ := K
  refine mj_alen dX2_snapshotsKept_9 hfn3 ?_
  refine mj_icmp_ge (tgt := 32) dX2_snapshotsKept_10 (by decide) ⟨fun h => ?_, fun h => ?_⟩
  · replace K := K.1 h
    refine mj_iload_n (k := 1) dX2_snapshotsKept_32 rfl rfl ?_
    exact mj_ret (v := some (mI l1)) ⟨dX2_snapshotsKept_33, .int, rfl, rfl⟩ K
  · replace K := K.2 h
    refine mj_aload_n (k := 0) dX2_snapshotsKept_13 rfl rfl ?_
    obtain ⟨fs4, hffs4, x5, hxx5, K⟩ := K
    refine mj_get dX2_snapshotsKept_14 lf_Y2_snapshotsKept_22 hffs4 hxx5 ?_
    refine mj_iload_n (k := 2) dX2_snapshotsKept_17 rfl rfl ?_
    obtain ⟨n6, fn6, hfn6, h0n6, h1n6, x7, hxx7, K⟩ := K
    refine mj_iald dX2_snapshotsKept_18 hfn6 h0n6 h1n6 ?_
    rw [hxx7]
    refine mj_iconst dX2_snapshotsKept_19 ⟨by decide, by decide⟩ ?_
    refine mj_icmp_eq (tgt := 26) dX2_snapshotsKept_20 (by decide) ⟨fun h => ?_, fun h => ?_⟩
    · replace K := K.1 h
      exact K
    · replace K := K.2 h
      refine mj_iinc (k := 1) (ls' := [some (mR l0), some (mI (mx_w (l1 + (1 : Int)))), some (mI l2)]) dX2_snapshotsKept_23 rfl (by decide) rfl ?_
      exact K
theorem B_Y2_snapshotsKept_26 {kb wb : Nat} {σ : mx_S} {Q : mx_R → Prop} {l0 : Nat} {l1 : Int} {l2 : Int} (K : mx_J Y2_snapshotsKept kb wb 4 [some (mR l0), some (mI l1), some (mI (mx_w (l2 + (1 : Int))))] [] σ Q) : mx_J Y2_snapshotsKept kb wb 26 [some (mR l0), some (mI l1), some (mI l2)] [] σ Q := by
  refine mj_iinc (k := 2) (ls' := [some (mR l0), some (mI l1), some (mI (mx_w (l2 + (1 : Int))))]) dX2_snapshotsKept_26 rfl (by decide) rfl ?_
  refine mj_goto (tgt := 4) dX2_snapshotsKept_29 (by decide) ?_
  exact K
theorem B_Y2_canTake_0 {kb wb : Nat} {σ : mx_S} {Q : mx_R → Prop} {l0 : Nat} (K : ∃ (fs : List mx_V), sH σ (l0) = some (.inl (2, fs)) ∧ ∃ (r2 : Int) (σ1 : mx_S), mx_MS Y2_snapshotsKept [mR l0] σ (.inl (some (mI r2), σ1)) ∧ sK σ1 ≤ kb ∧ sW σ1 ≤ wb ∧ ((6 : Int) ≤ r2 → Q (.inl (some (mI ((0 : Int))), σ1))) ∧ (¬ ((6 : Int) ≤ r2) → ∃ (fs : List mx_V), sH σ1 (l0) = some (.inl (2, fs)) ∧ ∃ x5, fs[6]? = some (mI x5) ∧ ((20 : Int) ≤ x5 → Q (.inl (some (mI ((0 : Int))), σ1))) ∧ (¬ ((20 : Int) ≤ x5) → Q (.inl (some (mI ((1 : Int))), σ1))))) : mx_J Y2_canTake kb wb 0 [some (mR l0)] [] σ Q := by
  refine mj_aload_n (k := 0) dX2_canTake_0 rfl rfl ?_
  obtain ⟨fs3, hbfs3, K⟩ := K
  obtain ⟨r2, σ1, hMσ1, hkσ1, hwσ1, K⟩ := K
  refine mj_callV (As := []) (rest := []) (b := l0) dX2_canTake_1 k_Y2_canTake_102 rfl hbfs3 rfl (Nat.le_of_ble_eq_true rfl) hMσ1 hkσ1 hwσ1 ?_
  refine mj_bipush (n := 6) dX2_canTake_4 ⟨by decide, by decide⟩ (by decide) ?_
  refine mj_icmp_ge (tgt := 22) dX2_canTake_6 (by decide) ⟨fun h => ?_, fun h => ?_⟩
  · replace K := K.1 h
    refine mj_iconst dX2_canTake_22 ⟨by decide, by decide⟩ ?_
    exact mj_ret (v := some (mI ((0 : Int)))) ⟨dX2_canTake_23, .boolean, rfl, by decide⟩ K
  · replace K := K.2 h
    refine mj_aload_n (k := 0) dX2_canTake_9 rfl rfl ?_
    obtain ⟨fs4, hffs4, x5, hxx5, K⟩ := K
    refine mj_get dX2_canTake_10 lf_Y2_canTake_105 hffs4 hxx5 ?_
    refine mj_bipush (n := 20) dX2_canTake_13 ⟨by decide, by decide⟩ (by decide) ?_
    refine mj_icmp_ge (tgt := 22) dX2_canTake_15 (by decide) ⟨fun h => ?_, fun h => ?_⟩
    · replace K := K.1 h
      refine mj_iconst dX2_canTake_22 ⟨by decide, by decide⟩ ?_
      exact mj_ret (v := some (mI ((0 : Int)))) ⟨dX2_canTake_23, .boolean, rfl, by decide⟩ K
    · replace K := K.2 h
      refine mj_iconst dX2_canTake_18 ⟨by decide, by decide⟩ ?_
      refine mj_goto (tgt := 23) dX2_canTake_19 (by decide) ?_
      exact mj_ret (v := some (mI ((1 : Int)))) ⟨dX2_canTake_23, .boolean, rfl, by decide⟩ K
theorem B_Y8_become_0 {kb wb : Nat} {σ : mx_S} {Q : mx_R → Prop} {l0 : Nat} {l1 : Nat} (K : ∃ (fs : List mx_V), sH σ (l1) = some (.inl (8, fs)) ∧ ∃ x2, fs[0]? = some (mR x2) ∧ ∃ (fs : List mx_V), sH σ (l0) = some (.inl (8, fs)) ∧ ∃ x4, fs[0]? = some (mR x4) ∧ ∃ (kd n6 n7 : Nat) (f g : Nat → mx_V), sH σ (x2) = some (.inr (kd, n6, f)) ∧ sH σ (x4) = some (.inr (kd, n7, g)) ∧ kd < 2 ∧ sB σ ≤ x4 ∧ 0 ≤ (0 : Int) ∧ 0 ≤ (0 : Int) ∧ 0 ≤ (12 : Int) ∧ (0 : Int) + (12 : Int) ≤ (n6 : Int) ∧ (0 : Int) + (12 : Int) ≤ (n7 : Int) ∧ (∀ i : Nat, i < ((12 : Int)).toNat → fits (mx_ty kd) (mx_c (f (((0 : Int)).toNat + i))) = true) ∧ ∀ σ5, σ5 = mx_wr σ (x4) (.inr (kd, n7, cpV f g ((0 : Int)).toNat ((0 : Int)).toNat ((12 : Int)).toNat)) → ∃ (fs : List mx_V), sH σ5 (l1) = some (.inl (8, fs)) ∧ ∃ x9, fs[1]? = some (mR x9) ∧ ∃ (fs : List mx_V), sH σ5 (l0) = some (.inl (8, fs)) ∧ ∃ x11, fs[1]? = some (mR x11) ∧ ∃ (kd n13 n14 : Nat) (f g : Nat → mx_V), sH σ5 (x9) = some (.inr (kd, n13, f)) ∧ sH σ5 (x11) = some (.inr (kd, n14, g)) ∧ kd < 2 ∧ sB σ5 ≤ x11 ∧ 0 ≤ (0 : Int) ∧ 0 ≤ (0 : Int) ∧ 0 ≤ (12 : Int) ∧ (0 : Int) + (12 : Int) ≤ (n13 : Int) ∧ (0 : Int) + (12 : Int) ≤ (n14 : Int) ∧ (∀ i : Nat, i < ((12 : Int)).toNat → fits (mx_ty kd) (mx_c (f (((0 : Int)).toNat + i))) = true) ∧ ∀ σ12, σ12 = mx_wr σ5 (x11) (.inr (kd, n14, cpV f g ((0 : Int)).toNat ((0 : Int)).toNat ((12 : Int)).toNat)) → ∃ (fs : List mx_V), sH σ12 (l1) = some (.inl (8, fs)) ∧ ∃ x16, fs[2]? = some (mR x16) ∧ ∃ (fs : List mx_V), sH σ12 (l0) = some (.inl (8, fs)) ∧ ∃ x18, fs[2]? = some (mR x18) ∧ ∃ (kd n20 n21 : Nat) (f g : Nat → mx_V), sH σ12 (x16) = some (.inr (kd, n20, f)) ∧ sH σ12 (x18) = some (.inr (kd, n21, g)) ∧ kd < 2 ∧ sB σ12 ≤ x18 ∧ 0 ≤ (0 : Int) ∧ 0 ≤ (0 : Int) ∧ 0 ≤ (480 : Int) ∧ (0 : Int) + (480 : Int) ≤ (n20 : Int) ∧ (0 : Int) + (480 : Int) ≤ (n21 : Int) ∧ (∀ i : Nat, i < ((480 : Int)).toNat → fits (mx_ty kd) (mx_c (f (((0 : Int)).toNat + i))) = true) ∧ ∀ σ19, σ19 = mx_wr σ12 (x18) (.inr (kd, n21, cpV f g ((0 : Int)).toNat ((0 : Int)).toNat ((480 : Int)).toNat)) → ∃ (fs : List mx_V), sH σ19 (l1) = some (.inl (8, fs)) ∧ ∃ x23, fs[3]? = some (mI x23) ∧ ∃ (fs : List mx_V), sH σ19 (l0) = some (.inl (8, fs)) ∧ 3 < fs.length ∧ sB σ19 ≤ l0 ∧ ∀ σ25, σ25 = mx_wr σ19 (l0) (.inl (8, fs.set 3 (mI x23))) → Q (.inl (none, σ25))) : mx_J Y8_become kb wb 0 [some (mR l0), some (mR l1)] [] σ Q := by
  refine mj_aload_n (k := 1) dX8_become_0 rfl rfl ?_
  obtain ⟨fs1, hffs1, x2, hxx2, K⟩ := K
  refine mj_get dX8_become_1 lf_Y8_become_9 hffs1 hxx2 ?_
  refine mj_iconst dX8_become_4 ⟨by decide, by decide⟩ ?_
  refine mj_aload_n (k := 0) dX8_become_5 rfl rfl ?_
  obtain ⟨fs3, hffs3, x4, hxx4, K⟩ := K
  refine mj_get dX8_become_6 lf_Y8_become_9 hffs3 hxx4 ?_
  refine mj_iconst dX8_become_9 ⟨by decide, by decide⟩ ?_
  refine mj_bipush (n := 12) dX8_become_10 ⟨by decide, by decide⟩ (by decide) ?_
  obtain ⟨kd, n6, n7, f, g, hc0, hc1, hkd, hb, h1, h2, h3, h4, h5, h6, K⟩ := K
  replace K := K _ rfl
  refine mj_copy (rest := []) dX8_become_12 w_615 w_410 w_409 w_37 (by decide) (Nat.le_of_ble_eq_true rfl) hc0 hc1 hkd hb h1 h2 h3 h4 h5 h6 ?_
  generalize mx_wr σ (x4) (.inr (kd, n7, cpV f g ((0 : Int)).toNat ((0 : Int)).toNat ((12 : Int)).toNat)) = σ5 at K ⊢
  refine mj_aload_n (k := 1) dX8_become_15 rfl rfl ?_
  obtain ⟨fs8, hffs8, x9, hxx9, K⟩ := K
  refine mj_get dX8_become_16 lf_Y8_become_15 hffs8 hxx9 ?_
  refine mj_iconst dX8_become_19 ⟨by decide, by decide⟩ ?_
  refine mj_aload_n (k := 0) dX8_become_20 rfl rfl ?_
  obtain ⟨fs10, hffs10, x11, hxx11, K⟩ := K
  refine mj_get dX8_become_21 lf_Y8_become_15 hffs10 hxx11 ?_
  refine mj_iconst dX8_become_24 ⟨by decide, by decide⟩ ?_
  refine mj_bipush (n := 12) dX8_become_25 ⟨by decide, by decide⟩ (by decide) ?_
  obtain ⟨kd, n13, n14, f, g, hc0, hc1, hkd, hb, h1, h2, h3, h4, h5, h6, K⟩ := K
  replace K := K _ rfl
  refine mj_copy (rest := []) dX8_become_27 w_615 w_410 w_409 w_37 (by decide) (Nat.le_of_ble_eq_true rfl) hc0 hc1 hkd hb h1 h2 h3 h4 h5 h6 ?_
  generalize mx_wr σ5 (x11) (.inr (kd, n14, cpV f g ((0 : Int)).toNat ((0 : Int)).toNat ((12 : Int)).toNat)) = σ12 at K ⊢
  refine mj_aload_n (k := 1) dX8_become_30 rfl rfl ?_
  obtain ⟨fs15, hffs15, x16, hxx16, K⟩ := K
  refine mj_get dX8_become_31 lf_Y8_become_18 hffs15 hxx16 ?_
  refine mj_iconst dX8_become_34 ⟨by decide, by decide⟩ ?_
  refine mj_aload_n (k := 0) dX8_become_35 rfl rfl ?_
  obtain ⟨fs17, hffs17, x18, hxx18, K⟩ := K
  refine mj_get dX8_become_36 lf_Y8_become_18 hffs17 hxx18 ?_
  refine mj_iconst dX8_become_39 ⟨by decide, by decide⟩ ?_
  refine mj_sipush (n := 480) dX8_become_40 ⟨by decide, by decide⟩ (by decide) ?_
  obtain ⟨kd, n20, n21, f, g, hc0, hc1, hkd, hb, h1, h2, h3, h4, h5, h6, K⟩ := K
  replace K := K _ rfl
  refine mj_copy (rest := []) dX8_become_43 w_615 w_410 w_409 w_37 (by decide) (Nat.le_of_ble_eq_true rfl) hc0 hc1 hkd hb h1 h2 h3 h4 h5 h6 ?_
  generalize mx_wr σ12 (x18) (.inr (kd, n21, cpV f g ((0 : Int)).toNat ((0 : Int)).toNat ((480 : Int)).toNat)) = σ19 at K ⊢
  refine mj_aload_n (k := 0) dX8_become_46 rfl rfl ?_
  refine mj_aload_n (k := 1) dX8_become_47 rfl rfl ?_
  obtain ⟨fs22, hffs22, x23, hxx23, K⟩ := K
  refine mj_get dX8_become_48 lf_Y8_become_22 hffs22 hxx23 ?_
  obtain ⟨fs24, hffs24, hlfs24, hbfs24, K⟩ := K
  replace K := K _ rfl
  refine mj_put dX8_become_51 pf_Y8_become_22 hffs24 hlfs24 hbfs24 ⟨rfl, rfl⟩ ?_
  generalize mx_wr σ19 (l0) (.inl (8, fs24.set 3 (mI x23))) = σ25 at K ⊢
  exact mj_ret (v := none) ⟨dX8_become_54, rfl⟩ K
theorem B_Y9_become_0 {kb wb : Nat} {σ : mx_S} {Q : mx_R → Prop} {l0 : Nat} {l1 : Nat} (K : ∃ (fs : List mx_V), sH σ (l0) = some (.inl (9, fs)) ∧ ∃ x2, fs[0]? = some (mR x2) ∧ ∃ (fs : List mx_V), sH σ (l1) = some (.inl (9, fs)) ∧ ∃ x4, fs[0]? = some (mR x4) ∧ ∃ (fs : List mx_V), sH σ (x2) = some (.inl (8, fs)) ∧ ∃ (σ5 : mx_S), mx_MS Y8_become [mR x2, mR x4] σ (.inl (none, σ5)) ∧ sK σ5 ≤ kb ∧ sW σ5 ≤ wb ∧ ∃ (fs : List mx_V), sH σ5 (l0) = some (.inl (9, fs)) ∧ ∃ (σ7 : mx_S), mx_MS Y9_forgetOrder [mR l0] σ5 (.inl (none, σ7)) ∧ sK σ7 ≤ kb ∧ sW σ7 ≤ wb ∧ Q (.inl (none, σ7))) : mx_J Y9_become kb wb 0 [some (mR l0), some (mR l1)] [] σ Q := by
  refine mj_aload_n (k := 0) dX9_become_0 rfl rfl ?_
  obtain ⟨fs1, hffs1, x2, hxx2, K⟩ := K
  refine mj_get dX9_become_1 lf_Y9_become_12 hffs1 hxx2 ?_
  refine mj_aload_n (k := 1) dX9_become_4 rfl rfl ?_
  obtain ⟨fs3, hffs3, x4, hxx4, K⟩ := K
  refine mj_get dX9_become_5 lf_Y9_become_12 hffs3 hxx4 ?_
  obtain ⟨fs6, hbfs6, K⟩ := K
  obtain ⟨σ5, hMσ5, hkσ5, hwσ5, K⟩ := K
  refine mj_callV (As := [mR x4]) (rest := []) (b := x2) dX9_become_8 k_Y9_become_36 rfl hbfs6 rfl (Nat.le_of_ble_eq_true rfl) hMσ5 hkσ5 hwσ5 ?_
  refine mj_aload_n (k := 0) dX9_become_11 rfl rfl ?_
  obtain ⟨fs8, hbfs8, K⟩ := K
  obtain ⟨σ7, hMσ7, hkσ7, hwσ7, K⟩ := K
  refine mj_callV (As := []) (rest := []) (b := l0) dX9_become_12 k_Y9_become_40 rfl hbfs8 rfl (Nat.le_of_ble_eq_true rfl) hMσ7 hkσ7 hwσ7 ?_
  exact mj_ret (v := none) ⟨dX9_become_15, rfl⟩ K
theorem B_Y2_take_0 {kb wb : Nat} {σ : mx_S} {Q : mx_R → Prop} {l0 : Nat} (K : ∃ (fs : List mx_V), sH σ (l0) = some (.inl (2, fs)) ∧ ∃ x2, fs[6]? = some (mI x2) ∧ mx_J Y2_take kb wb 7 [some (mR l0), some (mI x2), some (mI ((0 : Int))), none] [] σ Q) : mx_J Y2_take kb wb 0 [some (mR l0), none, none, none] [] σ Q := by
  refine mj_aload_n (k := 0) dX2_take_0 rfl rfl ?_
  obtain ⟨fs1, hffs1, x2, hxx2, K⟩ := K
  refine mj_get dX2_take_1 lf_Y2_take_105 hffs1 hxx2 ?_
  refine mj_istore_n (k := 1) (ls' := [some (mR l0), some (mI x2), none, none]) dX2_take_4 rfl (by decide) rfl ?_
  refine mj_iconst dX2_take_5 ⟨by decide, by decide⟩ ?_
  refine mj_istore_n (k := 2) (ls' := [some (mR l0), some (mI x2), some (mI ((0 : Int))), none]) dX2_take_6 rfl (by decide) rfl ?_
  exact K
theorem B_Y2_take_7 {kb wb : Nat} {σ : mx_S} {Q : mx_R → Prop} {l0 : Nat} {l1 : Int} {l2 : Int} (K : ∃ (fs : List mx_V), sH σ (l0) = some (.inl (2, fs)) ∧ ∃ x2, fs[2]? = some (mR x2) ∧ ∃ (kd n3 : Nat) (f : Nat → mx_V), sH σ (x2) = some (.inr (kd, n3, f)) ∧ ((n3 : Int) ≤ l2 → Q (.inl (some (mI l1), σ))) ∧ (¬ ((n3 : Int) ≤ l2) → ∃ (fs : List mx_V), sH σ (l0) = some (.inl (2, fs)) ∧ ∃ (r5 : Option Nat) (σ4 : mx_S), mx_MS Y2_shelf [mR l0, mI l2] σ (.inl (some (Sum.inr (Sum.inl r5)), σ4)) ∧ sK σ4 ≤ kb ∧ sW σ4 ≤ wb ∧ ∃ (fs : List mx_V), sH σ4 (l0) = some (.inl (2, fs)) ∧ ∃ x8, fs[2]? = some (mR x8) ∧ ∃ (n9 : Nat) (f : Nat → mx_V), sH σ4 (x8) = some (.inr (0, n9, f)) ∧ 0 ≤ l2 ∧ l2 < (n9 : Int) ∧ ∃ x10, f (l2).toNat = mI x10 ∧ (¬ x10 = (-1 : Int) → mx_J Y2_take kb wb 63 [some (mR l0), some (mI l1), some (mI l2), some (Sum.inr (Sum.inl r5))] [] σ4 Q) ∧ (¬ (¬ x10 = (-1 : Int)) → (r5 = none → mx_J Y2_take kb wb 63 [some (mR l0), some (mI l1), some (mI l2), some (mN)] [] σ4 Q) ∧ (∀ a11 : Nat, r5 = some a11 → ∃ (fs : List mx_V), sH σ4 (l0) = some (.inl (2, fs)) ∧ ∃ x13, fs[0]? = some (mR x13) ∧ ∃ (fs : List mx_V), sH σ4 (a11) = some (.inl (9, fs)) ∧ ∃ (σ14 : mx_S), mx_MS Y9_become [mR a11, mR x13] σ4 (.inl (none, σ14)) ∧ sK σ14 ≤ kb ∧ sW σ14 ≤ wb ∧ ∃ (fs : List mx_V), sH σ14 (l0) = some (.inl (2, fs)) ∧ ∃ x17, fs[2]? = some (mR x17) ∧ ∃ (n18 : Nat) (f : Nat → mx_V), sH σ14 (x17) = some (.inr (0, n18, f)) ∧ sB σ14 ≤ x17 ∧ 0 ≤ l2 ∧ l2 < (n18 : Int) ∧ ∀ σ19, σ19 = mx_wr σ14 (x17) (.inr (0, n18, upV f (l2).toNat (mI l1))) → ∃ (fs : List mx_V), sH σ19 (l0) = some (.inl (2, fs)) ∧ ∃ x21, fs[6]? = some (mI x21) ∧ ∃ (fs : List mx_V), sH σ19 (l0) = some (.inl (2, fs)) ∧ 6 < fs.length ∧ sB σ19 ≤ l0 ∧ ∀ σ23, σ23 = mx_wr σ19 (l0) (.inl (2, fs.set 6 (mI (mx_w (x21 + (1 : Int)))))) → Q (.inl (some (mI l1), σ23)))))) : mx_J Y2_take kb wb 7 [some (mR l0), some (mI l1), some (mI l2), none] [] σ Q := by
  refine mj_iload_n (k := 2) dX2_take_7 rfl rfl ?_
  refine mj_aload_n (k := 0) dX2_take_8 rfl rfl ?_
  obtain ⟨fs1, hffs1, x2, hxx2, K⟩ := K
  refine mj_get dX2_take_9 lf_Y2_take_22 hffs1 hxx2 ?_
  obtain ⟨kd, n3, fn3, hfn3, K⟩ := K
  refine mj_alen dX2_take_12 hfn3 ?_
  refine mj_icmp_ge (tgt := 69) dX2_take_13 (by decide) ⟨fun h => ?_, fun h => ?_⟩
  · replace K := K.1 h
    refine mj_iload_n (k := 1) dX2_take_69 rfl rfl ?_
    exact mj_ret (v := some (mI l1)) ⟨dX2_take_70, .int, rfl, rfl⟩ K
  · replace K := K.2 h
    refine mj_aload_n (k := 0) dX2_take_16 rfl rfl ?_
    refine mj_iload_n (k := 2) dX2_take_17 rfl rfl ?_
    obtain ⟨fs6, hbfs6, K⟩ := K
    obtain ⟨r5, σ4, hMσ4, hkσ4, hwσ4, K⟩ := K
    refine mj_callV (As := [mI l2]) (rest := []) (b := l0) dX2_take_18 k_Y2_take_50 rfl hbfs6 rfl (Nat.le_of_ble_eq_true rfl) hMσ4 hkσ4 hwσ4 ?_
    refine mj_astoreO_n (k := 3) (ls' := [some (mR l0), some (mI l1), some (mI l2), some (Sum.inr (Sum.inl r5))]) dX2_take_21 rfl (by decide) rfl ?_
    refine mj_aload_n (k := 0) dX2_take_22 rfl rfl ?_
    obtain ⟨fs7, hffs7, x8, hxx8, K⟩ := K
    refine mj_get dX2_take_23 lf_Y2_take_22 hffs7 hxx8 ?_
    refine mj_iload_n (k := 2) dX2_take_26 rfl rfl ?_
    obtain ⟨n9, fn9, hfn9, h0n9, h1n9, x10, hxx10, K⟩ := K
    refine mj_iald dX2_take_27 hfn9 h0n9 h1n9 ?_
    rw [hxx10]
    refine mj_iconst dX2_take_28 ⟨by decide, by decide⟩ ?_
    refine mj_icmp_ne (tgt := 63) dX2_take_29 (by decide) ⟨fun h => ?_, fun h => ?_⟩
    · replace K := K.1 h
      exact K
    · replace K := K.2 h
      refine mj_aloadO_n (k := 3) dX2_take_32 rfl rfl ?_
      refine mj_ifnull (tgt := 63) dX2_take_33 (by decide) ⟨fun h => ?_, fun h => ?_⟩
      · replace K := K.1 h
        subst h
        exact K
      · obtain ⟨a11, h⟩ := Option.ne_none_iff_exists'.mp h
        replace K := K.2 a11 h
        subst h
        refine mj_aload_n (k := 3) dX2_take_36 rfl rfl ?_
        refine mj_aload_n (k := 0) dX2_take_37 rfl rfl ?_
        obtain ⟨fs12, hffs12, x13, hxx13, K⟩ := K
        refine mj_get dX2_take_38 lf_Y2_take_12 hffs12 hxx13 ?_
        obtain ⟨fs15, hbfs15, K⟩ := K
        obtain ⟨σ14, hMσ14, hkσ14, hwσ14, K⟩ := K
        refine mj_callV (As := [mR x13]) (rest := []) (b := a11) dX2_take_41 k_Y2_take_108 rfl hbfs15 rfl (Nat.le_of_ble_eq_true rfl) hMσ14 hkσ14 hwσ14 ?_
        refine mj_aload_n (k := 0) dX2_take_44 rfl rfl ?_
        obtain ⟨fs16, hffs16, x17, hxx17, K⟩ := K
        refine mj_get dX2_take_45 lf_Y2_take_22 hffs16 hxx17 ?_
        refine mj_iload_n (k := 2) dX2_take_48 rfl rfl ?_
        refine mj_iload_n (k := 1) dX2_take_49 rfl rfl ?_
        obtain ⟨n18, fn18, hfn18, hbn18, h0n18, h1n18, K⟩ := K
        replace K := K _ rfl
        refine mj_iast dX2_take_50 hfn18 hbn18 h0n18 h1n18 ?_
        generalize mx_wr σ14 (x17) (.inr (0, n18, upV fn18 (l2).toNat (mI l1))) = σ19 at K ⊢
        refine mj_aload_n (k := 0) dX2_take_51 rfl rfl ?_
        refine mj_dup dX2_take_52 rfl ?_
        obtain ⟨fs20, hffs20, x21, hxx21, K⟩ := K
        refine mj_get dX2_take_53 lf_Y2_take_105 hffs20 hxx21 ?_
        refine mj_iconst dX2_take_56 ⟨by decide, by decide⟩ ?_
        refine mj_iadd dX2_take_57 ?_
        obtain ⟨fs22, hffs22, hlfs22, hbfs22, K⟩ := K
        replace K := K _ rfl
        refine mj_put dX2_take_58 pf_Y2_take_105 hffs22 hlfs22 hbfs22 ⟨rfl, rfl⟩ ?_
        generalize mx_wr σ19 (l0) (.inl (2, fs22.set 6 (mI (mx_w (x21 + (1 : Int)))))) = σ23 at K ⊢
        refine mj_iload_n (k := 1) dX2_take_61 rfl rfl ?_
        exact mj_ret (v := some (mI l1)) ⟨dX2_take_62, .int, rfl, rfl⟩ K
theorem B_Y2_take_63 {kb wb : Nat} {σ : mx_S} {Q : mx_R → Prop} {l0 : Nat} {l1 : Int} {l2 : Int} {l3 : Option Nat} (K : mx_J Y2_take kb wb 7 [some (mR l0), some (mI l1), some (mI (mx_w (l2 + (1 : Int)))), none] [] σ Q) : mx_J Y2_take kb wb 63 [some (mR l0), some (mI l1), some (mI l2), some (Sum.inr (Sum.inl l3))] [] σ Q := by
  refine mj_iinc (k := 2) (ls' := [some (mR l0), some (mI l1), some (mI (mx_w (l2 + (1 : Int)))), some (Sum.inr (Sum.inl l3))]) dX2_take_63 rfl (by decide) rfl ?_
  refine mj_goto (tgt := 7) dX2_take_66 (by decide) ?_
  exact mj_forget (ls' := [some (mR l0), some (mI l1), some (mI (mx_w (l2 + (1 : Int)))), none]) ⟨rfl, ⟨rfl, ⟨rfl, trivial⟩⟩⟩ K
theorem B_Y8_letter_0 {kb wb : Nat} {σ : mx_S} {Q : mx_R → Prop} {l0 : Nat} {l1 : Int} {l2 : Int} (K : (l1 < (0 : Int) → Q (.inl (some (mI ((0 : Int))), σ))) ∧ (¬ (l1 < (0 : Int)) → ∃ (fs : List mx_V), sH σ (l0) = some (.inl (8, fs)) ∧ ∃ x2, fs[3]? = some (mI x2) ∧ (x2 ≤ l1 → Q (.inl (some (mI ((0 : Int))), σ))) ∧ (¬ (x2 ≤ l1) → ((12 : Int) ≤ l1 → Q (.inl (some (mI ((0 : Int))), σ))) ∧ (¬ ((12 : Int) ≤ l1) → (l2 < (0 : Int) → Q (.inl (some (mI ((0 : Int))), σ))) ∧ (¬ (l2 < (0 : Int)) → ∃ (fs : List mx_V), sH σ (l0) = some (.inl (8, fs)) ∧ ∃ x4, fs[1]? = some (mR x4) ∧ ∃ (n5 : Nat) (f : Nat → mx_V), sH σ (x4) = some (.inr (0, n5, f)) ∧ 0 ≤ l1 ∧ l1 < (n5 : Int) ∧ ∃ x6, f (l1).toNat = mI x6 ∧ (l2 < x6 → ((40 : Int) ≤ l2 → Q (.inl (some (mI ((0 : Int))), σ))) ∧ (¬ ((40 : Int) ≤ l2) → ∃ (fs : List mx_V), sH σ (l0) = some (.inl (8, fs)) ∧ ∃ x8, fs[2]? = some (mR x8) ∧ ∃ (n9 : Nat) (f : Nat → mx_V), sH σ (x8) = some (.inr (1, n9, f)) ∧ 0 ≤ mx_w (mx_w (l1 * (40 : Int)) + l2) ∧ mx_w (mx_w (l1 * (40 : Int)) + l2) < (n9 : Int) ∧ ∃ x10, f (mx_w (mx_w (l1 * (40 : Int)) + l2)).toNat = mI x10 ∧ 0 ≤ x10 ∧ x10 ≤ 65535 ∧ Q (.inl (some (mI x10), σ)))) ∧ (¬ (l2 < x6) → Q (.inl (some (mI ((0 : Int))), σ)))))))) : mx_J Y8_letter kb wb 0 [some (mR l0), some (mI l1), some (mI l2)] [] σ Q := by
  refine mj_iload_n (k := 1) dX8_letter_0 rfl rfl ?_
  refine mj_if_lt (tgt := 32) dX8_letter_1 (by decide) ⟨fun h => ?_, fun h => ?_⟩
  · replace K := K.1 h
    refine mj_iconst dX8_letter_32 ⟨by decide, by decide⟩ ?_
    exact mj_ret (v := some (mI ((0 : Int)))) ⟨dX8_letter_33, .char, rfl, by decide⟩ K
  · replace K := K.2 h
    refine mj_iload_n (k := 1) dX8_letter_4 rfl rfl ?_
    refine mj_aload_n (k := 0) dX8_letter_5 rfl rfl ?_
    obtain ⟨fs1, hffs1, x2, hxx2, K⟩ := K
    refine mj_get dX8_letter_6 lf_Y8_letter_22 hffs1 hxx2 ?_
    refine mj_icmp_ge (tgt := 32) dX8_letter_9 (by decide) ⟨fun h => ?_, fun h => ?_⟩
    · replace K := K.1 h
      refine mj_iconst dX8_letter_32 ⟨by decide, by decide⟩ ?_
      exact mj_ret (v := some (mI ((0 : Int)))) ⟨dX8_letter_33, .char, rfl, by decide⟩ K
    · replace K := K.2 h
      refine mj_iload_n (k := 1) dX8_letter_12 rfl rfl ?_
      refine mj_bipush (n := 12) dX8_letter_13 ⟨by decide, by decide⟩ (by decide) ?_
      refine mj_icmp_ge (tgt := 32) dX8_letter_15 (by decide) ⟨fun h => ?_, fun h => ?_⟩
      · replace K := K.1 h
        refine mj_iconst dX8_letter_32 ⟨by decide, by decide⟩ ?_
        exact mj_ret (v := some (mI ((0 : Int)))) ⟨dX8_letter_33, .char, rfl, by decide⟩ K
      · replace K := K.2 h
        refine mj_iload_n (k := 2) dX8_letter_18 rfl rfl ?_
        refine mj_if_lt (tgt := 32) dX8_letter_19 (by decide) ⟨fun h => ?_, fun h => ?_⟩
        · replace K := K.1 h
          refine mj_iconst dX8_letter_32 ⟨by decide, by decide⟩ ?_
          exact mj_ret (v := some (mI ((0 : Int)))) ⟨dX8_letter_33, .char, rfl, by decide⟩ K
        · replace K := K.2 h
          refine mj_iload_n (k := 2) dX8_letter_22 rfl rfl ?_
          refine mj_aload_n (k := 0) dX8_letter_23 rfl rfl ?_
          obtain ⟨fs3, hffs3, x4, hxx4, K⟩ := K
          refine mj_get dX8_letter_24 lf_Y8_letter_15 hffs3 hxx4 ?_
          refine mj_iload_n (k := 1) dX8_letter_27 rfl rfl ?_
          obtain ⟨n5, fn5, hfn5, h0n5, h1n5, x6, hxx6, K⟩ := K
          refine mj_iald dX8_letter_28 hfn5 h0n5 h1n5 ?_
          rw [hxx6]
          refine mj_icmp_lt (tgt := 34) dX8_letter_29 (by decide) ⟨fun h => ?_, fun h => ?_⟩
          · replace K := K.1 h
            refine mj_iload_n (k := 2) dX8_letter_34 rfl rfl ?_
            refine mj_bipush (n := 40) dX8_letter_35 ⟨by decide, by decide⟩ (by decide) ?_
            refine mj_icmp_ge (tgt := 54) dX8_letter_37 (by decide) ⟨fun h => ?_, fun h => ?_⟩
            · replace K := K.1 h
              refine mj_iconst dX8_letter_54 ⟨by decide, by decide⟩ ?_
              exact mj_ret (v := some (mI ((0 : Int)))) ⟨dX8_letter_55, .char, rfl, by decide⟩ K
            · replace K := K.2 h
              refine mj_aload_n (k := 0) dX8_letter_40 rfl rfl ?_
              obtain ⟨fs7, hffs7, x8, hxx8, K⟩ := K
              refine mj_get dX8_letter_41 lf_Y8_letter_18 hffs7 hxx8 ?_
              refine mj_iload_n (k := 1) dX8_letter_44 rfl rfl ?_
              refine mj_bipush (n := 40) dX8_letter_45 ⟨by decide, by decide⟩ (by decide) ?_
              refine mj_imul dX8_letter_47 ?_
              refine mj_iload_n (k := 2) dX8_letter_48 rfl rfl ?_
              refine mj_iadd dX8_letter_49 ?_
              obtain ⟨n9, fn9, hfn9, h0n9, h1n9, x10, hxx10, K⟩ := K
              refine mj_cald dX8_letter_50 hfn9 h0n9 h1n9 ?_
              rw [hxx10]
              refine mj_goto (tgt := 55) dX8_letter_51 (by decide) ?_
              exact mj_ret (v := some (mI x10)) ⟨dX8_letter_55, .char, rfl, mx_nch K.1 K.2.1⟩ K.2.2
          · replace K := K.2 h
            refine mj_iconst dX8_letter_32 ⟨by decide, by decide⟩ ?_
            exact mj_ret (v := some (mI ((0 : Int)))) ⟨dX8_letter_33, .char, rfl, by decide⟩ K
theorem B_Y8_shared_0 {kb wb : Nat} {σ : mx_S} {Q : mx_R → Prop} {l0 : Nat} {l1 : Int} {l2 : Int} {l3 : Int} {l4 : Int} (K : mx_J Y8_shared kb wb 3 [some (mR l0), some (mI l1), some (mI l2), some (mI l3), some (mI l4), some (mI ((0 : Int))), none] [] σ Q) : mx_J Y8_shared kb wb 0 [some (mR l0), some (mI l1), some (mI l2), some (mI l3), some (mI l4), none, none] [] σ Q := by
  refine mj_iconst dX8_shared_0 ⟨by decide, by decide⟩ ?_
  refine mj_istore (k := 5) (ls' := [some (mR l0), some (mI l1), some (mI l2), some (mI l3), some (mI l4), some (mI ((0 : Int))), none]) dX8_shared_1 (by decide) rfl ?_
  exact K
theorem B_Y8_shared_3 {kb wb : Nat} {σ : mx_S} {Q : mx_R → Prop} {l0 : Nat} {l1 : Int} {l2 : Int} {l3 : Int} {l4 : Int} {l5 : Int} (K : ((40 : Int) ≤ l5 → Q (.inl (some (mI l5), σ))) ∧ (¬ ((40 : Int) ≤ l5) → ∃ (fs : List mx_V), sH σ (l0) = some (.inl (8, fs)) ∧ ∃ (r2 : Int) (σ1 : mx_S), mx_MS Y8_letter [mR l0, mI l1, mI (mx_w (l2 + l5))] σ (.inl (some (mI r2), σ1)) ∧ sK σ1 ≤ kb ∧ sW σ1 ≤ wb ∧ (r2 = (0 : Int) → Q (.inl (some (mI l5), σ1))) ∧ (¬ (r2 = (0 : Int)) → ∃ (fs : List mx_V), sH σ1 (l0) = some (.inl (8, fs)) ∧ ∃ (r5 : Int) (σ4 : mx_S), mx_MS Y8_letter [mR l0, mI l3, mI (mx_w (l4 + l5))] σ1 (.inl (some (mI r5), σ4)) ∧ sK σ4 ≤ kb ∧ sW σ4 ≤ wb ∧ (r2 = r5 → mx_J Y8_shared kb wb 3 [some (mR l0), some (mI l1), some (mI l2), some (mI l3), some (mI l4), some (mI (mx_w (l5 + (1 : Int)))), none] [] σ4 Q) ∧ (¬ (r2 = r5) → Q (.inl (some (mI l5), σ4)))))) : mx_J Y8_shared kb wb 3 [some (mR l0), some (mI l1), some (mI l2), some (mI l3), some (mI l4), some (mI l5), none] [] σ Q := by
  refine mj_iload (k := 5) dX8_shared_3 rfl ?_
  refine mj_bipush (n := 40) dX8_shared_5 ⟨by decide, by decide⟩ (by decide) ?_
  refine mj_icmp_ge (tgt := 50) dX8_shared_7 (by decide) ⟨fun h => ?_, fun h => ?_⟩
  · replace K := K.1 h
    refine mj_iload (k := 5) dX8_shared_50 rfl ?_
    exact mj_ret (v := some (mI l5)) ⟨dX8_shared_52, .int, rfl, rfl⟩ K
  · replace K := K.2 h
    refine mj_aload_n (k := 0) dX8_shared_10 rfl rfl ?_
    refine mj_iload_n (k := 1) dX8_shared_11 rfl rfl ?_
    refine mj_iload_n (k := 2) dX8_shared_12 rfl rfl ?_
    refine mj_iload (k := 5) dX8_shared_13 rfl ?_
    refine mj_iadd dX8_shared_15 ?_
    obtain ⟨fs3, hbfs3, K⟩ := K
    obtain ⟨r2, σ1, hMσ1, hkσ1, hwσ1, K⟩ := K
    refine mj_callV (As := [mI l1, mI (mx_w (l2 + l5))]) (rest := []) (b := l0) dX8_shared_16 k_Y8_shared_57 rfl hbfs3 rfl (Nat.le_of_ble_eq_true rfl) hMσ1 hkσ1 hwσ1 ?_
    refine mj_istore (k := 6) (ls' := [some (mR l0), some (mI l1), some (mI l2), some (mI l3), some (mI l4), some (mI l5), some (mI r2)]) dX8_shared_19 (by decide) rfl ?_
    refine mj_iload (k := 6) dX8_shared_21 rfl ?_
    refine mj_if_eq (tgt := 41) dX8_shared_23 (by decide) ⟨fun h => ?_, fun h => ?_⟩
    · replace K := K.1 h
      refine mj_iload (k := 5) dX8_shared_41 rfl ?_
      exact mj_ret (v := some (mI l5)) ⟨dX8_shared_43, .int, rfl, rfl⟩ K
    · replace K := K.2 h
      refine mj_iload (k := 6) dX8_shared_26 rfl ?_
      refine mj_aload_n (k := 0) dX8_shared_28 rfl rfl ?_
      refine mj_iload_n (k := 3) dX8_shared_29 rfl rfl ?_
      refine mj_iload (k := 4) dX8_shared_30 rfl ?_
      refine mj_iload (k := 5) dX8_shared_32 rfl ?_
      refine mj_iadd dX8_shared_34 ?_
      obtain ⟨fs6, hbfs6, K⟩ := K
      obtain ⟨r5, σ4, hMσ4, hkσ4, hwσ4, K⟩ := K
      refine mj_callV (As := [mI l3, mI (mx_w (l4 + l5))]) (rest := [mI r2]) (b := l0) dX8_shared_35 k_Y8_shared_57 rfl hbfs6 rfl (Nat.le_of_ble_eq_true rfl) hMσ4 hkσ4 hwσ4 ?_
      refine mj_icmp_eq (tgt := 44) dX8_shared_38 (by decide) ⟨fun h => ?_, fun h => ?_⟩
      · replace K := K.1 h
        refine mj_iinc (k := 5) (ls' := [some (mR l0), some (mI l1), some (mI l2), some (mI l3), some (mI l4), some (mI (mx_w (l5 + (1 : Int)))), some (mI r2)]) dX8_shared_44 rfl (by decide) rfl ?_
        refine mj_goto (tgt := 3) dX8_shared_47 (by decide) ?_
        exact mj_forget (ls' := [some (mR l0), some (mI l1), some (mI l2), some (mI l3), some (mI l4), some (mI (mx_w (l5 + (1 : Int)))), none]) ⟨rfl, ⟨rfl, ⟨rfl, ⟨rfl, ⟨rfl, ⟨rfl, trivial⟩⟩⟩⟩⟩⟩ K
      · replace K := K.2 h
        refine mj_iload (k := 5) dX8_shared_41 rfl ?_
        exact mj_ret (v := some (mI l5)) ⟨dX8_shared_43, .int, rfl, rfl⟩ K
theorem B_Y8_compare_0 {kb wb : Nat} {σ : mx_S} {Q : mx_R → Prop} {l0 : Nat} {l1 : Int} {l2 : Int} {l3 : Int} {l4 : Int} (K : ∃ (fs : List mx_V), sH σ (l0) = some (.inl (8, fs)) ∧ ∃ (r2 : Int) (σ1 : mx_S), mx_MS Y8_shared [mR l0, mI l1, mI l2, mI l3, mI l4] σ (.inl (some (mI r2), σ1)) ∧ sK σ1 ≤ kb ∧ sW σ1 ≤ wb ∧ ∃ (fs : List mx_V), sH σ1 (l0) = some (.inl (8, fs)) ∧ ∃ (r5 : Int) (σ4 : mx_S), mx_MS Y8_letter [mR l0, mI l1, mI (mx_w (l2 + r2))] σ1 (.inl (some (mI r5), σ4)) ∧ sK σ4 ≤ kb ∧ sW σ4 ≤ wb ∧ ∃ (fs : List mx_V), sH σ4 (l0) = some (.inl (8, fs)) ∧ ∃ (r8 : Int) (σ7 : mx_S), mx_MS Y8_letter [mR l0, mI l3, mI (mx_w (l4 + r2))] σ4 (.inl (some (mI r8), σ7)) ∧ sK σ7 ≤ kb ∧ sW σ7 ≤ wb ∧ (mx_w (r5 - r8) = (0 : Int) → Q (.inl (some (mI (mx_w (l1 - l3))), σ7))) ∧ (¬ (mx_w (r5 - r8) = (0 : Int)) → Q (.inl (some (mI (mx_w (r5 - r8))), σ7)))) : mx_J Y8_compare kb wb 0 [some (mR l0), some (mI l1), some (mI l2), some (mI l3), some (mI l4), none, none] [] σ Q := by
  refine mj_aload_n (k := 0) dX8_compare_0 rfl rfl ?_
  refine mj_iload_n (k := 1) dX8_compare_1 rfl rfl ?_
  refine mj_iload_n (k := 2) dX8_compare_2 rfl rfl ?_
  refine mj_iload_n (k := 3) dX8_compare_3 rfl rfl ?_
  refine mj_iload (k := 4) dX8_compare_4 rfl ?_
  obtain ⟨fs3, hbfs3, K⟩ := K
  obtain ⟨r2, σ1, hMσ1, hkσ1, hwσ1, K⟩ := K
  refine mj_callV (As := [mI l1, mI l2, mI l3, mI l4]) (rest := []) (b := l0) dX8_compare_6 k_Y8_compare_61 rfl hbfs3 rfl (Nat.le_of_ble_eq_true rfl) hMσ1 hkσ1 hwσ1 ?_
  refine mj_istore (k := 5) (ls' := [some (mR l0), some (mI l1), some (mI l2), some (mI l3), some (mI l4), some (mI r2), none]) dX8_compare_9 (by decide) rfl ?_
  refine mj_aload_n (k := 0) dX8_compare_11 rfl rfl ?_
  refine mj_iload_n (k := 1) dX8_compare_12 rfl rfl ?_
  refine mj_iload_n (k := 2) dX8_compare_13 rfl rfl ?_
  refine mj_iload (k := 5) dX8_compare_14 rfl ?_
  refine mj_iadd dX8_compare_16 ?_
  obtain ⟨fs6, hbfs6, K⟩ := K
  obtain ⟨r5, σ4, hMσ4, hkσ4, hwσ4, K⟩ := K
  refine mj_callV (As := [mI l1, mI (mx_w (l2 + r2))]) (rest := []) (b := l0) dX8_compare_17 k_Y8_compare_57 rfl hbfs6 rfl (Nat.le_of_ble_eq_true rfl) hMσ4 hkσ4 hwσ4 ?_
  refine mj_aload_n (k := 0) dX8_compare_20 rfl rfl ?_
  refine mj_iload_n (k := 3) dX8_compare_21 rfl rfl ?_
  refine mj_iload (k := 4) dX8_compare_22 rfl ?_
  refine mj_iload (k := 5) dX8_compare_24 rfl ?_
  refine mj_iadd dX8_compare_26 ?_
  obtain ⟨fs9, hbfs9, K⟩ := K
  obtain ⟨r8, σ7, hMσ7, hkσ7, hwσ7, K⟩ := K
  refine mj_callV (As := [mI l3, mI (mx_w (l4 + r2))]) (rest := [mI r5]) (b := l0) dX8_compare_27 k_Y8_compare_57 rfl hbfs9 rfl (Nat.le_of_ble_eq_true rfl) hMσ7 hkσ7 hwσ7 ?_
  refine mj_isub dX8_compare_30 ?_
  refine mj_istore (k := 6) (ls' := [some (mR l0), some (mI l1), some (mI l2), some (mI l3), some (mI l4), some (mI r2), some (mI (mx_w (r5 - r8)))]) dX8_compare_31 (by decide) rfl ?_
  refine mj_iload (k := 6) dX8_compare_33 rfl ?_
  refine mj_if_eq (tgt := 43) dX8_compare_35 (by decide) ⟨fun h => ?_, fun h => ?_⟩
  · replace K := K.1 h
    refine mj_iload_n (k := 1) dX8_compare_43 rfl rfl ?_
    refine mj_iload_n (k := 3) dX8_compare_44 rfl rfl ?_
    refine mj_isub dX8_compare_45 ?_
    exact mj_ret (v := some (mI (mx_w (l1 - l3)))) ⟨dX8_compare_46, .int, rfl, rfl⟩ K
  · replace K := K.2 h
    refine mj_iload (k := 6) dX8_compare_38 rfl ?_
    refine mj_goto (tgt := 46) dX8_compare_40 (by decide) ?_
    exact mj_ret (v := some (mI (mx_w (r5 - r8)))) ⟨dX8_compare_46, .int, rfl, rfl⟩ K
theorem B_Y9_putIn_0 {kb wb : Nat} {σ : mx_S} {Q : mx_R → Prop} {l0 : Nat} {l1 : Int} {l2 : Int} (K : ∃ (fs : List mx_V), sH σ (l0) = some (.inl (9, fs)) ∧ ∃ x2, fs[4]? = some (mI x2) ∧ (x2 < (0 : Int) → Q (.inl (none, σ))) ∧ (¬ (x2 < (0 : Int)) → ∃ (fs : List mx_V), sH σ (l0) = some (.inl (9, fs)) ∧ ∃ x4, fs[4]? = some (mI x4) ∧ (x4 < (480 : Int) → ∃ (fs : List mx_V), sH σ (l0) = some (.inl (9, fs)) ∧ ∃ x6, fs[4]? = some (mI x6) ∧ mx_J Y9_putIn kb wb 29 [some (mR l0), some (mI l1), some (mI l2), some (mI ((0 : Int))), some (mI x6), some (mI ((0 : Int))), none, none] [] σ Q) ∧ (¬ (x4 < (480 : Int)) → Q (.inl (none, σ))))) : mx_J Y9_putIn kb wb 0 [some (mR l0), some (mI l1), some (mI l2), none, none, none, none, none] [] σ Q := by
  refine mj_aload_n (k := 0) dX9_putIn_0 rfl rfl ?_
  obtain ⟨fs1, hffs1, x2, hxx2, K⟩ := K
  refine mj_get dX9_putIn_1 lf_Y9_putIn_32 hffs1 hxx2 ?_
  refine mj_if_lt (tgt := 17) dX9_putIn_4 (by decide) ⟨fun h => ?_, fun h => ?_⟩
  · replace K := K.1 h
    exact mj_ret (v := none) ⟨dX9_putIn_17, rfl⟩ K
  · replace K := K.2 h
    refine mj_aload_n (k := 0) dX9_putIn_7 rfl rfl ?_
    obtain ⟨fs3, hffs3, x4, hxx4, K⟩ := K
    refine mj_get dX9_putIn_8 lf_Y9_putIn_32 hffs3 hxx4 ?_
    refine mj_sipush (n := 480) dX9_putIn_11 ⟨by decide, by decide⟩ (by decide) ?_
    refine mj_icmp_lt (tgt := 18) dX9_putIn_14 (by decide) ⟨fun h => ?_, fun h => ?_⟩
    · replace K := K.1 h
      refine mj_iconst dX9_putIn_18 ⟨by decide, by decide⟩ ?_
      refine mj_istore_n (k := 3) (ls' := [some (mR l0), some (mI l1), some (mI l2), some (mI ((0 : Int))), none, none, none, none]) dX9_putIn_19 rfl (by decide) rfl ?_
      refine mj_aload_n (k := 0) dX9_putIn_20 rfl rfl ?_
      obtain ⟨fs5, hffs5, x6, hxx6, K⟩ := K
      refine mj_get dX9_putIn_21 lf_Y9_putIn_32 hffs5 hxx6 ?_
      refine mj_istore (k := 4) (ls' := [some (mR l0), some (mI l1), some (mI l2), some (mI ((0 : Int))), some (mI x6), none, none, none]) dX9_putIn_24 (by decide) rfl ?_
      refine mj_iconst dX9_putIn_26 ⟨by decide, by decide⟩ ?_
      refine mj_istore (k := 5) (ls' := [some (mR l0), some (mI l1), some (mI l2), some (mI ((0 : Int))), some (mI x6), some (mI ((0 : Int))), none, none]) dX9_putIn_27 (by decide) rfl ?_
      exact K
    · replace K := K.2 h
      exact mj_ret (v := none) ⟨dX9_putIn_17, rfl⟩ K
theorem B_Y9_putIn_29 {kb wb : Nat} {σ : mx_S} {Q : mx_R → Prop} {l0 : Nat} {l1 : Int} {l2 : Int} {l3 : Int} {l4 : Int} {l5 : Int} (K : ((480 : Int) ≤ l5 → mx_J Y9_putIn kb wb 100 [some (mR l0), some (mI l1), some (mI l2), some (mI l3), some (mI l4), some (mI l5), none, none] [] σ Q) ∧ (¬ ((480 : Int) ≤ l5) → (l4 ≤ l3 → mx_J Y9_putIn kb wb 100 [some (mR l0), some (mI l1), some (mI l2), some (mI l3), some (mI l4), some (mI l5), none, none] [] σ Q) ∧ (¬ (l4 ≤ l3) → ∃ (fs : List mx_V), sH σ (l0) = some (.inl (9, fs)) ∧ ∃ x2, fs[1]? = some (mR x2) ∧ ∃ (n3 : Nat) (f : Nat → mx_V), sH σ (x2) = some (.inr (0, n3, f)) ∧ 0 ≤ mx_div (mx_w (l3 + l4)) ((2 : Int)) ∧ mx_div (mx_w (l3 + l4)) ((2 : Int)) < (n3 : Int) ∧ ∃ x4, f (mx_div (mx_w (l3 + l4)) ((2 : Int))).toNat = mI x4 ∧ ∃ (fs : List mx_V), sH σ (l0) = some (.inl (9, fs)) ∧ ∃ x6, fs[0]? = some (mR x6) ∧ ∃ (fs : List mx_V), sH σ (x6) = some (.inl (8, fs)) ∧ ∃ (r8 : Int) (σ7 : mx_S), mx_MS Y8_compare [mR x6, mI (mx_div (x4) ((40 : Int))), mI (mx_rem (x4) ((40 : Int))), mI l1, mI l2] σ (.inl (some (mI r8), σ7)) ∧ sK σ7 ≤ kb ∧ sW σ7 ≤ wb ∧ ((0 : Int) ≤ r8 → mx_J Y9_putIn kb wb 94 [some (mR l0), some (mI l1), some (mI l2), some (mI l3), some (mI (mx_div (mx_w (l3 + l4)) ((2 : Int)))), some (mI l5), some (mI (mx_div (mx_w (l3 + l4)) ((2 : Int)))), some (mI x4)] [] σ7 Q) ∧ (¬ ((0 : Int) ≤ r8) → mx_J Y9_putIn kb wb 94 [some (mR l0), some (mI l1), some (mI l2), some (mI (mx_w (mx_div (mx_w (l3 + l4)) ((2 : Int)) + (1 : Int)))), some (mI l4), some (mI l5), some (mI (mx_div (mx_w (l3 + l4)) ((2 : Int)))), some (mI x4)] [] σ7 Q)))) : mx_J Y9_putIn kb wb 29 [some (mR l0), some (mI l1), some (mI l2), some (mI l3), some (mI l4), some (mI l5), none, none] [] σ Q := by
  refine mj_iload (k := 5) dX9_putIn_29 rfl ?_
  refine mj_sipush (n := 480) dX9_putIn_31 ⟨by decide, by decide⟩ (by decide) ?_
  refine mj_icmp_ge (tgt := 100) dX9_putIn_34 (by decide) ⟨fun h => ?_, fun h => ?_⟩
  · replace K := K.1 h
    exact K
  · replace K := K.2 h
    refine mj_iload_n (k := 3) dX9_putIn_37 rfl rfl ?_
    refine mj_iload (k := 4) dX9_putIn_38 rfl ?_
    refine mj_icmp_ge (tgt := 100) dX9_putIn_40 (by decide) ⟨fun h => ?_, fun h => ?_⟩
    · replace K := K.1 h
      exact K
    · replace K := K.2 h
      refine mj_iload_n (k := 3) dX9_putIn_43 rfl rfl ?_
      refine mj_iload (k := 4) dX9_putIn_44 rfl ?_
      refine mj_iadd dX9_putIn_46 ?_
      refine mj_iconst dX9_putIn_47 ⟨by decide, by decide⟩ ?_
      refine mj_idiv dX9_putIn_48 (by decide) ?_
      refine mj_istore (k := 6) (ls' := [some (mR l0), some (mI l1), some (mI l2), some (mI l3), some (mI l4), some (mI l5), some (mI (mx_div (mx_w (l3 + l4)) ((2 : Int)))), none]) dX9_putIn_49 (by decide) rfl ?_
      refine mj_aload_n (k := 0) dX9_putIn_51 rfl rfl ?_
      obtain ⟨fs1, hffs1, x2, hxx2, K⟩ := K
      refine mj_get dX9_putIn_52 lf_Y9_putIn_18 hffs1 hxx2 ?_
      refine mj_iload (k := 6) dX9_putIn_55 rfl ?_
      obtain ⟨n3, fn3, hfn3, h0n3, h1n3, x4, hxx4, K⟩ := K
      refine mj_iald dX9_putIn_57 hfn3 h0n3 h1n3 ?_
      rw [hxx4]
      refine mj_istore (k := 7) (ls' := [some (mR l0), some (mI l1), some (mI l2), some (mI l3), some (mI l4), some (mI l5), some (mI (mx_div (mx_w (l3 + l4)) ((2 : Int)))), some (mI x4)]) dX9_putIn_58 (by decide) rfl ?_
      refine mj_aload_n (k := 0) dX9_putIn_60 rfl rfl ?_
      obtain ⟨fs5, hffs5, x6, hxx6, K⟩ := K
      refine mj_get dX9_putIn_61 lf_Y9_putIn_12 hffs5 hxx6 ?_
      refine mj_iload (k := 7) dX9_putIn_64 rfl ?_
      refine mj_bipush (n := 40) dX9_putIn_66 ⟨by decide, by decide⟩ (by decide) ?_
      refine mj_idiv dX9_putIn_68 (by decide) ?_
      refine mj_iload (k := 7) dX9_putIn_69 rfl ?_
      refine mj_bipush (n := 40) dX9_putIn_71 ⟨by decide, by decide⟩ (by decide) ?_
      refine mj_irem dX9_putIn_73 (by decide) ?_
      refine mj_iload_n (k := 1) dX9_putIn_74 rfl rfl ?_
      refine mj_iload_n (k := 2) dX9_putIn_75 rfl rfl ?_
      obtain ⟨fs9, hbfs9, K⟩ := K
      obtain ⟨r8, σ7, hMσ7, hkσ7, hwσ7, K⟩ := K
      refine mj_callV (As := [mI (mx_div (x4) ((40 : Int))), mI (mx_rem (x4) ((40 : Int))), mI l1, mI l2]) (rest := []) (b := x6) dX9_putIn_76 k_Y9_putIn_64 rfl hbfs9 rfl (Nat.le_of_ble_eq_true rfl) hMσ7 hkσ7 hwσ7 ?_
      refine mj_if_ge (tgt := 90) dX9_putIn_79 (by decide) ⟨fun h => ?_, fun h => ?_⟩
      · replace K := K.1 h
        refine mj_iload (k := 6) dX9_putIn_90 rfl ?_
        refine mj_istore (k := 4) (ls' := [some (mR l0), some (mI l1), some (mI l2), some (mI l3), some (mI (mx_div (mx_w (l3 + l4)) ((2 : Int)))), some (mI l5), some (mI (mx_div (mx_w (l3 + l4)) ((2 : Int)))), some (mI x4)]) dX9_putIn_92 (by decide) rfl ?_
        exact K
      · replace K := K.2 h
        refine mj_iload (k := 6) dX9_putIn_82 rfl ?_
        refine mj_iconst dX9_putIn_84 ⟨by decide, by decide⟩ ?_
        refine mj_iadd dX9_putIn_85 ?_
        refine mj_istore_n (k := 3) (ls' := [some (mR l0), some (mI l1), some (mI l2), some (mI (mx_w (mx_div (mx_w (l3 + l4)) ((2 : Int)) + (1 : Int)))), some (mI l4), some (mI l5), some (mI (mx_div (mx_w (l3 + l4)) ((2 : Int)))), some (mI x4)]) dX9_putIn_86 rfl (by decide) rfl ?_
        refine mj_goto (tgt := 94) dX9_putIn_87 (by decide) ?_
        exact K
theorem B_Y9_putIn_100 {kb wb : Nat} {σ : mx_S} {Q : mx_R → Prop} {l0 : Nat} {l1 : Int} {l2 : Int} {l3 : Int} {l4 : Int} {l5 : Int} (K : ∃ (fs : List mx_V), sH σ (l0) = some (.inl (9, fs)) ∧ ∃ x2, fs[1]? = some (mR x2) ∧ ∃ (fs : List mx_V), sH σ (l0) = some (.inl (9, fs)) ∧ ∃ x4, fs[1]? = some (mR x4) ∧ ∃ (fs : List mx_V), sH σ (l0) = some (.inl (9, fs)) ∧ ∃ x6, fs[4]? = some (mI x6) ∧ ∃ (kd n8 n9 : Nat) (f g : Nat → mx_V), sH σ (x2) = some (.inr (kd, n8, f)) ∧ sH σ (x4) = some (.inr (kd, n9, g)) ∧ kd < 2 ∧ sB σ ≤ x4 ∧ 0 ≤ l3 ∧ 0 ≤ mx_w (l3 + (1 : Int)) ∧ 0 ≤ mx_w (x6 - l3) ∧ l3 + mx_w (x6 - l3) ≤ (n8 : Int) ∧ mx_w (l3 + (1 : Int)) + mx_w (x6 - l3) ≤ (n9 : Int) ∧ (∀ i : Nat, i < (mx_w (x6 - l3)).toNat → fits (mx_ty kd) (mx_c (f ((l3).toNat + i))) = true) ∧ ∀ σ7, σ7 = mx_wr σ (x4) (.inr (kd, n9, cpV f g (l3).toNat (mx_w (l3 + (1 : Int))).toNat (mx_w (x6 - l3)).toNat)) → ∃ (fs : List mx_V), sH σ7 (l0) = some (.inl (9, fs)) ∧ ∃ x11, fs[1]? = some (mR x11) ∧ ∃ (n12 : Nat) (f : Nat → mx_V), sH σ7 (x11) = some (.inr (0, n12, f)) ∧ sB σ7 ≤ x11 ∧ 0 ≤ l3 ∧ l3 < (n12 : Int) ∧ ∀ σ13, σ13 = mx_wr σ7 (x11) (.inr (0, n12, upV f (l3).toNat (mI (mx_w (mx_w (l1 * (40 : Int)) + l2))))) → ∃ (fs : List mx_V), sH σ13 (l0) = some (.inl (9, fs)) ∧ ∃ x15, fs[4]? = some (mI x15) ∧ ∃ (fs : List mx_V), sH σ13 (l0) = some (.inl (9, fs)) ∧ 4 < fs.length ∧ sB σ13 ≤ l0 ∧ ∀ σ17, σ17 = mx_wr σ13 (l0) (.inl (9, fs.set 4 (mI (mx_w (x15 + (1 : Int)))))) → Q (.inl (none, σ17))) : mx_J Y9_putIn kb wb 100 [some (mR l0), some (mI l1), some (mI l2), some (mI l3), some (mI l4), some (mI l5), none, none] [] σ Q := by
  refine mj_aload_n (k := 0) dX9_putIn_100 rfl rfl ?_
  obtain ⟨fs1, hffs1, x2, hxx2, K⟩ := K
  refine mj_get dX9_putIn_101 lf_Y9_putIn_18 hffs1 hxx2 ?_
  refine mj_iload_n (k := 3) dX9_putIn_104 rfl rfl ?_
  refine mj_aload_n (k := 0) dX9_putIn_105 rfl rfl ?_
  obtain ⟨fs3, hffs3, x4, hxx4, K⟩ := K
  refine mj_get dX9_putIn_106 lf_Y9_putIn_18 hffs3 hxx4 ?_
  refine mj_iload_n (k := 3) dX9_putIn_109 rfl rfl ?_
  refine mj_iconst dX9_putIn_110 ⟨by decide, by decide⟩ ?_
  refine mj_iadd dX9_putIn_111 ?_
  refine mj_aload_n (k := 0) dX9_putIn_112 rfl rfl ?_
  obtain ⟨fs5, hffs5, x6, hxx6, K⟩ := K
  refine mj_get dX9_putIn_113 lf_Y9_putIn_32 hffs5 hxx6 ?_
  refine mj_iload_n (k := 3) dX9_putIn_116 rfl rfl ?_
  refine mj_isub dX9_putIn_117 ?_
  obtain ⟨kd, n8, n9, f, g, hc0, hc1, hkd, hb, h1, h2, h3, h4, h5, h6, K⟩ := K
  replace K := K _ rfl
  refine mj_copy (rest := []) dX9_putIn_118 w_408 w_410 w_409 w_37 (by decide) (Nat.le_of_ble_eq_true rfl) hc0 hc1 hkd hb h1 h2 h3 h4 h5 h6 ?_
  generalize mx_wr σ (x4) (.inr (kd, n9, cpV f g (l3).toNat (mx_w (l3 + (1 : Int))).toNat (mx_w (x6 - l3)).toNat)) = σ7 at K ⊢
  refine mj_aload_n (k := 0) dX9_putIn_121 rfl rfl ?_
  obtain ⟨fs10, hffs10, x11, hxx11, K⟩ := K
  refine mj_get dX9_putIn_122 lf_Y9_putIn_18 hffs10 hxx11 ?_
  refine mj_iload_n (k := 3) dX9_putIn_125 rfl rfl ?_
  refine mj_iload_n (k := 1) dX9_putIn_126 rfl rfl ?_
  refine mj_bipush (n := 40) dX9_putIn_127 ⟨by decide, by decide⟩ (by decide) ?_
  refine mj_imul dX9_putIn_129 ?_
  refine mj_iload_n (k := 2) dX9_putIn_130 rfl rfl ?_
  refine mj_iadd dX9_putIn_131 ?_
  obtain ⟨n12, fn12, hfn12, hbn12, h0n12, h1n12, K⟩ := K
  replace K := K _ rfl
  refine mj_iast dX9_putIn_132 hfn12 hbn12 h0n12 h1n12 ?_
  generalize mx_wr σ7 (x11) (.inr (0, n12, upV fn12 (l3).toNat (mI (mx_w (mx_w (l1 * (40 : Int)) + l2))))) = σ13 at K ⊢
  refine mj_aload_n (k := 0) dX9_putIn_133 rfl rfl ?_
  refine mj_dup dX9_putIn_134 rfl ?_
  obtain ⟨fs14, hffs14, x15, hxx15, K⟩ := K
  refine mj_get dX9_putIn_135 lf_Y9_putIn_32 hffs14 hxx15 ?_
  refine mj_iconst dX9_putIn_138 ⟨by decide, by decide⟩ ?_
  refine mj_iadd dX9_putIn_139 ?_
  obtain ⟨fs16, hffs16, hlfs16, hbfs16, K⟩ := K
  replace K := K _ rfl
  refine mj_put dX9_putIn_140 pf_Y9_putIn_32 hffs16 hlfs16 hbfs16 ⟨rfl, rfl⟩ ?_
  generalize mx_wr σ13 (l0) (.inl (9, fs16.set 4 (mI (mx_w (x15 + (1 : Int)))))) = σ17 at K ⊢
  exact mj_ret (v := none) ⟨dX9_putIn_143, rfl⟩ K
theorem B_Y9_putIn_94 {kb wb : Nat} {σ : mx_S} {Q : mx_R → Prop} {l0 : Nat} {l1 : Int} {l2 : Int} {l3 : Int} {l4 : Int} {l5 : Int} {l6 : Int} {l7 : Int} (K : mx_J Y9_putIn kb wb 29 [some (mR l0), some (mI l1), some (mI l2), some (mI l3), some (mI l4), some (mI (mx_w (l5 + (1 : Int)))), none, none] [] σ Q) : mx_J Y9_putIn kb wb 94 [some (mR l0), some (mI l1), some (mI l2), some (mI l3), some (mI l4), some (mI l5), some (mI l6), some (mI l7)] [] σ Q := by
  refine mj_iinc (k := 5) (ls' := [some (mR l0), some (mI l1), some (mI l2), some (mI l3), some (mI l4), some (mI (mx_w (l5 + (1 : Int)))), some (mI l6), some (mI l7)]) dX9_putIn_94 rfl (by decide) rfl ?_
  refine mj_goto (tgt := 29) dX9_putIn_97 (by decide) ?_
  exact mj_forget (ls' := [some (mR l0), some (mI l1), some (mI l2), some (mI l3), some (mI l4), some (mI (mx_w (l5 + (1 : Int)))), none, none]) ⟨rfl, ⟨rfl, ⟨rfl, ⟨rfl, ⟨rfl, ⟨rfl, trivial⟩⟩⟩⟩⟩⟩ K
theorem B_Y9_codeAt_0 {kb wb : Nat} {σ : mx_S} {Q : mx_R → Prop} {l0 : Nat} {l1 : Int} (K : (l1 < (0 : Int) → Q (.inl (some (mI ((-1 : Int))), σ))) ∧ (¬ (l1 < (0 : Int)) → ∃ (fs : List mx_V), sH σ (l0) = some (.inl (9, fs)) ∧ ∃ x2, fs[4]? = some (mI x2) ∧ (x2 ≤ l1 → Q (.inl (some (mI ((-1 : Int))), σ))) ∧ (¬ (x2 ≤ l1) → ∃ (fs : List mx_V), sH σ (l0) = some (.inl (9, fs)) ∧ ∃ x4, fs[1]? = some (mR x4) ∧ ∃ (kd n5 : Nat) (f : Nat → mx_V), sH σ (x4) = some (.inr (kd, n5, f)) ∧ ((n5 : Int) ≤ l1 → Q (.inl (some (mI ((-1 : Int))), σ))) ∧ (¬ ((n5 : Int) ≤ l1) → ∃ (fs : List mx_V), sH σ (l0) = some (.inl (9, fs)) ∧ ∃ x7, fs[1]? = some (mR x7) ∧ ∃ (n8 : Nat) (f : Nat → mx_V), sH σ (x7) = some (.inr (0, n8, f)) ∧ 0 ≤ l1 ∧ l1 < (n8 : Int) ∧ ∃ x9, f (l1).toNat = mI x9 ∧ Q (.inl (some (mI x9), σ)))))) : mx_J Y9_codeAt kb wb 0 [some (mR l0), some (mI l1)] [] σ Q := by
  refine mj_iload_n (k := 1) dX9_codeAt_0 rfl rfl ?_
  refine mj_if_lt (tgt := 30) dX9_codeAt_1 (by decide) ⟨fun h => ?_, fun h => ?_⟩
  · replace K := K.1 h
    refine mj_iconst dX9_codeAt_30 ⟨by decide, by decide⟩ ?_
    exact mj_ret (v := some (mI ((-1 : Int)))) ⟨dX9_codeAt_31, .int, rfl, rfl⟩ K
  · replace K := K.2 h
    refine mj_iload_n (k := 1) dX9_codeAt_4 rfl rfl ?_
    refine mj_aload_n (k := 0) dX9_codeAt_5 rfl rfl ?_
    obtain ⟨fs1, hffs1, x2, hxx2, K⟩ := K
    refine mj_get dX9_codeAt_6 lf_Y9_codeAt_32 hffs1 hxx2 ?_
    refine mj_icmp_ge (tgt := 30) dX9_codeAt_9 (by decide) ⟨fun h => ?_, fun h => ?_⟩
    · replace K := K.1 h
      refine mj_iconst dX9_codeAt_30 ⟨by decide, by decide⟩ ?_
      exact mj_ret (v := some (mI ((-1 : Int)))) ⟨dX9_codeAt_31, .int, rfl, rfl⟩ K
    · replace K := K.2 h
      refine mj_iload_n (k := 1) dX9_codeAt_12 rfl rfl ?_
      refine mj_aload_n (k := 0) dX9_codeAt_13 rfl rfl ?_
      obtain ⟨fs3, hffs3, x4, hxx4, K⟩ := K
      refine mj_get dX9_codeAt_14 lf_Y9_codeAt_18 hffs3 hxx4 ?_
      obtain ⟨kd, n5, fn5, hfn5, K⟩ := K
      refine mj_alen dX9_codeAt_17 hfn5 ?_
      refine mj_icmp_ge (tgt := 30) dX9_codeAt_18 (by decide) ⟨fun h => ?_, fun h => ?_⟩
      · replace K := K.1 h
        refine mj_iconst dX9_codeAt_30 ⟨by decide, by decide⟩ ?_
        exact mj_ret (v := some (mI ((-1 : Int)))) ⟨dX9_codeAt_31, .int, rfl, rfl⟩ K
      · replace K := K.2 h
        refine mj_aload_n (k := 0) dX9_codeAt_21 rfl rfl ?_
        obtain ⟨fs6, hffs6, x7, hxx7, K⟩ := K
        refine mj_get dX9_codeAt_22 lf_Y9_codeAt_18 hffs6 hxx7 ?_
        refine mj_iload_n (k := 1) dX9_codeAt_25 rfl rfl ?_
        obtain ⟨n8, fn8, hfn8, h0n8, h1n8, x9, hxx9, K⟩ := K
        refine mj_iald dX9_codeAt_26 hfn8 h0n8 h1n8 ?_
        rw [hxx9]
        refine mj_goto (tgt := 31) dX9_codeAt_27 (by decide) ?_
        exact mj_ret (v := some (mI x9)) ⟨dX9_codeAt_31, .int, rfl, rfl⟩ K
theorem B_Y9_slotAt_0 {kb wb : Nat} {σ : mx_S} {Q : mx_R → Prop} {l0 : Nat} {l1 : Int} (K : ∃ (fs : List mx_V), sH σ (l0) = some (.inl (9, fs)) ∧ ∃ (r2 : Int) (σ1 : mx_S), mx_MS Y9_codeAt [mR l0, mI l1] σ (.inl (some (mI r2), σ1)) ∧ sK σ1 ≤ kb ∧ sW σ1 ≤ wb ∧ ((0 : Int) ≤ r2 → Q (.inl (some (mI (mx_div (r2) ((40 : Int)))), σ1))) ∧ (¬ ((0 : Int) ≤ r2) → Q (.inl (some (mI ((-1 : Int))), σ1)))) : mx_J Y9_slotAt kb wb 0 [some (mR l0), some (mI l1), none] [] σ Q := by
  refine mj_aload_n (k := 0) dX9_slotAt_0 rfl rfl ?_
  refine mj_iload_n (k := 1) dX9_slotAt_1 rfl rfl ?_
  obtain ⟨fs3, hbfs3, K⟩ := K
  obtain ⟨r2, σ1, hMσ1, hkσ1, hwσ1, K⟩ := K
  refine mj_callV (As := [mI l1]) (rest := []) (b := l0) dX9_slotAt_2 k_Y9_slotAt_73 rfl hbfs3 rfl (Nat.le_of_ble_eq_true rfl) hMσ1 hkσ1 hwσ1 ?_
  refine mj_istore_n (k := 2) (ls' := [some (mR l0), some (mI l1), some (mI r2)]) dX9_slotAt_5 rfl (by decide) rfl ?_
  refine mj_iload_n (k := 2) dX9_slotAt_6 rfl rfl ?_
  refine mj_if_ge (tgt := 14) dX9_slotAt_7 (by decide) ⟨fun h => ?_, fun h => ?_⟩
  · replace K := K.1 h
    refine mj_iload_n (k := 2) dX9_slotAt_14 rfl rfl ?_
    refine mj_bipush (n := 40) dX9_slotAt_15 ⟨by decide, by decide⟩ (by decide) ?_
    refine mj_idiv dX9_slotAt_17 (by decide) ?_
    exact mj_ret (v := some (mI (mx_div (r2) ((40 : Int))))) ⟨dX9_slotAt_18, .int, rfl, rfl⟩ K
  · replace K := K.2 h
    refine mj_iconst dX9_slotAt_10 ⟨by decide, by decide⟩ ?_
    refine mj_goto (tgt := 18) dX9_slotAt_11 (by decide) ?_
    exact mj_ret (v := some (mI ((-1 : Int)))) ⟨dX9_slotAt_18, .int, rfl, rfl⟩ K
theorem B_Y9_placeAt_0 {kb wb : Nat} {σ : mx_S} {Q : mx_R → Prop} {l0 : Nat} {l1 : Int} (K : ∃ (fs : List mx_V), sH σ (l0) = some (.inl (9, fs)) ∧ ∃ (r2 : Int) (σ1 : mx_S), mx_MS Y9_codeAt [mR l0, mI l1] σ (.inl (some (mI r2), σ1)) ∧ sK σ1 ≤ kb ∧ sW σ1 ≤ wb ∧ ((0 : Int) ≤ r2 → Q (.inl (some (mI (mx_rem (r2) ((40 : Int)))), σ1))) ∧ (¬ ((0 : Int) ≤ r2) → Q (.inl (some (mI ((-1 : Int))), σ1)))) : mx_J Y9_placeAt kb wb 0 [some (mR l0), some (mI l1), none] [] σ Q := by
  refine mj_aload_n (k := 0) dX9_placeAt_0 rfl rfl ?_
  refine mj_iload_n (k := 1) dX9_placeAt_1 rfl rfl ?_
  obtain ⟨fs3, hbfs3, K⟩ := K
  obtain ⟨r2, σ1, hMσ1, hkσ1, hwσ1, K⟩ := K
  refine mj_callV (As := [mI l1]) (rest := []) (b := l0) dX9_placeAt_2 k_Y9_placeAt_73 rfl hbfs3 rfl (Nat.le_of_ble_eq_true rfl) hMσ1 hkσ1 hwσ1 ?_
  refine mj_istore_n (k := 2) (ls' := [some (mR l0), some (mI l1), some (mI r2)]) dX9_placeAt_5 rfl (by decide) rfl ?_
  refine mj_iload_n (k := 2) dX9_placeAt_6 rfl rfl ?_
  refine mj_if_ge (tgt := 14) dX9_placeAt_7 (by decide) ⟨fun h => ?_, fun h => ?_⟩
  · replace K := K.1 h
    refine mj_iload_n (k := 2) dX9_placeAt_14 rfl rfl ?_
    refine mj_bipush (n := 40) dX9_placeAt_15 ⟨by decide, by decide⟩ (by decide) ?_
    refine mj_irem dX9_placeAt_17 (by decide) ?_
    exact mj_ret (v := some (mI (mx_rem (r2) ((40 : Int))))) ⟨dX9_placeAt_18, .int, rfl, rfl⟩ K
  · replace K := K.2 h
    refine mj_iconst dX9_placeAt_10 ⟨by decide, by decide⟩ ?_
    refine mj_goto (tgt := 18) dX9_placeAt_11 (by decide) ?_
    exact mj_ret (v := some (mI ((-1 : Int)))) ⟨dX9_placeAt_18, .int, rfl, rfl⟩ K
theorem B_Y9_putInOrder_0 {kb wb : Nat} {σ : mx_S} {Q : mx_R → Prop} {l0 : Nat} (K : ∃ (fs : List mx_V), sH σ (l0) = some (.inl (9, fs)) ∧ ∃ x2, fs[5]? = some (mI x2) ∧ (x2 = (0 : Int) → ∃ (fs : List mx_V), sH σ (l0) = some (.inl (9, fs)) ∧ 4 < fs.length ∧ sB σ ≤ l0 ∧ ∀ σ4, σ4 = mx_wr σ (l0) (.inl (9, fs.set 4 (mI ((0 : Int))))) → mx_J Y9_putInOrder kb wb 15 [some (mR l0), some (mI ((0 : Int))), none] [] σ4 Q) ∧ (¬ (x2 = (0 : Int)) → Q (.inl (none, σ)))) : mx_J Y9_putInOrder kb wb 0 [some (mR l0), none, none] [] σ Q := by
  refine mj_aload_n (k := 0) dX9_putInOrder_0 rfl rfl ?_
  obtain ⟨fs1, hffs1, x2, hxx2, K⟩ := K
  refine mj_get dX9_putInOrder_1 lf_Y9_putInOrder_28 hffs1 hxx2 ?_
  refine mj_if_eq (tgt := 8) dX9_putInOrder_4 (by decide) ⟨fun h => ?_, fun h => ?_⟩
  · replace K := K.1 h
    refine mj_aload_n (k := 0) dX9_putInOrder_8 rfl rfl ?_
    refine mj_iconst dX9_putInOrder_9 ⟨by decide, by decide⟩ ?_
    obtain ⟨fs3, hffs3, hlfs3, hbfs3, K⟩ := K
    replace K := K _ rfl
    refine mj_put dX9_putInOrder_10 pf_Y9_putInOrder_32 hffs3 hlfs3 hbfs3 ⟨rfl, rfl⟩ ?_
    generalize mx_wr σ (l0) (.inl (9, fs3.set 4 (mI ((0 : Int))))) = σ4 at K ⊢
    refine mj_iconst dX9_putInOrder_13 ⟨by decide, by decide⟩ ?_
    refine mj_istore_n (k := 1) (ls' := [some (mR l0), some (mI ((0 : Int))), none]) dX9_putInOrder_14 rfl (by decide) rfl ?_
    exact K
  · replace K := K.2 h
    exact mj_ret (v := none) ⟨dX9_putInOrder_7, rfl⟩ K
theorem B_Y9_putInOrder_15 {kb wb : Nat} {σ : mx_S} {Q : mx_R → Prop} {l0 : Nat} {l1 : Int} (K : ∃ (fs : List mx_V), sH σ (l0) = some (.inl (9, fs)) ∧ ∃ x2, fs[0]? = some (mR x2) ∧ ∃ (fs : List mx_V), sH σ (x2) = some (.inl (8, fs)) ∧ ∃ (r4 : Int) (σ3 : mx_S), mx_MS Y8_many [mR x2] σ (.inl (some (mI r4), σ3)) ∧ sK σ3 ≤ kb ∧ sW σ3 ≤ wb ∧ (r4 ≤ l1 → ∃ (fs : List mx_V), sH σ3 (l0) = some (.inl (9, fs)) ∧ 5 < fs.length ∧ sB σ3 ≤ l0 ∧ ∀ σ7, σ7 = mx_wr σ3 (l0) (.inl (9, fs.set 5 (mI ((1 : Int))))) → mx_J Y9_putInOrder kb wb 65 [some (mR l0), some (mI ((0 : Int))), none] [] σ7 Q) ∧ (¬ (r4 ≤ l1) → mx_J Y9_putInOrder kb wb 28 [some (mR l0), some (mI l1), some (mI ((0 : Int)))] [] σ3 Q)) : mx_J Y9_putInOrder kb wb 15 [some (mR l0), some (mI l1), none] [] σ Q := by
  refine mj_iload_n (k := 1) dX9_putInOrder_15 rfl rfl ?_
  refine mj_aload_n (k := 0) dX9_putInOrder_16 rfl rfl ?_
  obtain ⟨fs1, hffs1, x2, hxx2, K⟩ := K
  refine mj_get dX9_putInOrder_17 lf_Y9_putInOrder_12 hffs1 hxx2 ?_
  obtain ⟨fs5, hbfs5, K⟩ := K
  obtain ⟨r4, σ3, hMσ3, hkσ3, hwσ3, K⟩ := K
  refine mj_callV (As := []) (rest := [mI l1]) (b := x2) dX9_putInOrder_20 k_Y9_putInOrder_43 rfl hbfs5 rfl (Nat.le_of_ble_eq_true rfl) hMσ3 hkσ3 hwσ3 ?_
  refine mj_icmp_ge (tgt := 58) dX9_putInOrder_23 (by decide) ⟨fun h => ?_, fun h => ?_⟩
  · replace K := K.1 h
    refine mj_aload_n (k := 0) dX9_putInOrder_58 rfl rfl ?_
    refine mj_iconst dX9_putInOrder_59 ⟨by decide, by decide⟩ ?_
    obtain ⟨fs6, hffs6, hlfs6, hbfs6, K⟩ := K
    replace K := K _ rfl
    refine mj_put dX9_putInOrder_60 pf_Y9_putInOrder_28 hffs6 hlfs6 hbfs6 ⟨by decide, by decide⟩ ?_
    generalize mx_wr σ3 (l0) (.inl (9, fs6.set 5 (mI ((1 : Int))))) = σ7 at K ⊢
    refine mj_iconst dX9_putInOrder_63 ⟨by decide, by decide⟩ ?_
    refine mj_istore_n (k := 1) (ls' := [some (mR l0), some (mI ((0 : Int))), none]) dX9_putInOrder_64 rfl (by decide) rfl ?_
    exact K
  · replace K := K.2 h
    refine mj_iconst dX9_putInOrder_26 ⟨by decide, by decide⟩ ?_
    refine mj_istore_n (k := 2) (ls' := [some (mR l0), some (mI l1), some (mI ((0 : Int)))]) dX9_putInOrder_27 rfl (by decide) rfl ?_
    exact K
theorem B_Y9_putInOrder_65 {kb wb : Nat} {σ : mx_S} {Q : mx_R → Prop} {l0 : Nat} {l1 : Int} (K : ∃ (fs : List mx_V), sH σ (l0) = some (.inl (9, fs)) ∧ ∃ x2, fs[4]? = some (mI x2) ∧ (x2 ≤ l1 → Q (.inl (none, σ))) ∧ (¬ (x2 ≤ l1) → ((480 : Int) ≤ l1 → Q (.inl (none, σ))) ∧ (¬ ((480 : Int) ≤ l1) → ∃ (fs : List mx_V), sH σ (l0) = some (.inl (9, fs)) ∧ ∃ x4, fs[1]? = some (mR x4) ∧ ∃ (n5 : Nat) (f : Nat → mx_V), sH σ (x4) = some (.inr (0, n5, f)) ∧ 0 ≤ l1 ∧ l1 < (n5 : Int) ∧ ∃ x6, f (l1).toNat = mI x6 ∧ (x6 < (0 : Int) → mx_J Y9_putInOrder kb wb 105 [some (mR l0), some (mI l1), some (mI x6)] [] σ Q) ∧ (¬ (x6 < (0 : Int)) → ((480 : Int) ≤ x6 → mx_J Y9_putInOrder kb wb 105 [some (mR l0), some (mI l1), some (mI x6)] [] σ Q) ∧ (¬ ((480 : Int) ≤ x6) → ∃ (fs : List mx_V), sH σ (l0) = some (.inl (9, fs)) ∧ ∃ x8, fs[2]? = some (mR x8) ∧ ∃ (n9 : Nat) (f : Nat → mx_V), sH σ (x8) = some (.inr (0, n9, f)) ∧ sB σ ≤ x8 ∧ 0 ≤ x6 ∧ x6 < (n9 : Int) ∧ ∀ σ10, σ10 = mx_wr σ (x8) (.inr (0, n9, upV f (x6).toNat (mI l1))) → mx_J Y9_putInOrder kb wb 105 [some (mR l0), some (mI l1), some (mI x6)] [] σ10 Q))))) : mx_J Y9_putInOrder kb wb 65 [some (mR l0), some (mI l1), none] [] σ Q := by
  refine mj_iload_n (k := 1) dX9_putInOrder_65 rfl rfl ?_
  refine mj_aload_n (k := 0) dX9_putInOrder_66 rfl rfl ?_
  obtain ⟨fs1, hffs1, x2, hxx2, K⟩ := K
  refine mj_get dX9_putInOrder_67 lf_Y9_putInOrder_32 hffs1 hxx2 ?_
  refine mj_icmp_ge (tgt := 156) dX9_putInOrder_70 (by decide) ⟨fun h => ?_, fun h => ?_⟩
  · replace K := K.1 h
    exact mj_ret (v := none) ⟨dX9_putInOrder_156, rfl⟩ K
  · replace K := K.2 h
    refine mj_iload_n (k := 1) dX9_putInOrder_73 rfl rfl ?_
    refine mj_sipush (n := 480) dX9_putInOrder_74 ⟨by decide, by decide⟩ (by decide) ?_
    refine mj_icmp_ge (tgt := 156) dX9_putInOrder_77 (by decide) ⟨fun h => ?_, fun h => ?_⟩
    · replace K := K.1 h
      exact mj_ret (v := none) ⟨dX9_putInOrder_156, rfl⟩ K
    · replace K := K.2 h
      refine mj_aload_n (k := 0) dX9_putInOrder_80 rfl rfl ?_
      obtain ⟨fs3, hffs3, x4, hxx4, K⟩ := K
      refine mj_get dX9_putInOrder_81 lf_Y9_putInOrder_18 hffs3 hxx4 ?_
      refine mj_iload_n (k := 1) dX9_putInOrder_84 rfl rfl ?_
      obtain ⟨n5, fn5, hfn5, h0n5, h1n5, x6, hxx6, K⟩ := K
      refine mj_iald dX9_putInOrder_85 hfn5 h0n5 h1n5 ?_
      rw [hxx6]
      refine mj_istore_n (k := 2) (ls' := [some (mR l0), some (mI l1), some (mI x6)]) dX9_putInOrder_86 rfl (by decide) rfl ?_
      refine mj_iload_n (k := 2) dX9_putInOrder_87 rfl rfl ?_
      refine mj_if_lt (tgt := 105) dX9_putInOrder_88 (by decide) ⟨fun h => ?_, fun h => ?_⟩
      · replace K := K.1 h
        exact K
      · replace K := K.2 h
        refine mj_iload_n (k := 2) dX9_putInOrder_91 rfl rfl ?_
        refine mj_sipush (n := 480) dX9_putInOrder_92 ⟨by decide, by decide⟩ (by decide) ?_
        refine mj_icmp_ge (tgt := 105) dX9_putInOrder_95 (by decide) ⟨fun h => ?_, fun h => ?_⟩
        · replace K := K.1 h
          exact K
        · replace K := K.2 h
          refine mj_aload_n (k := 0) dX9_putInOrder_98 rfl rfl ?_
          obtain ⟨fs7, hffs7, x8, hxx8, K⟩ := K
          refine mj_get dX9_putInOrder_99 lf_Y9_putInOrder_22 hffs7 hxx8 ?_
          refine mj_iload_n (k := 2) dX9_putInOrder_102 rfl rfl ?_
          refine mj_iload_n (k := 1) dX9_putInOrder_103 rfl rfl ?_
          obtain ⟨n9, fn9, hfn9, hbn9, h0n9, h1n9, K⟩ := K
          replace K := K _ rfl
          refine mj_iast dX9_putInOrder_104 hfn9 hbn9 h0n9 h1n9 ?_
          generalize mx_wr σ (x8) (.inr (0, n9, upV fn9 (x6).toNat (mI l1))) = σ10 at K ⊢
          exact K
theorem B_Y9_putInOrder_28 {kb wb : Nat} {σ : mx_S} {Q : mx_R → Prop} {l0 : Nat} {l1 : Int} {l2 : Int} (K : ∃ (fs : List mx_V), sH σ (l0) = some (.inl (9, fs)) ∧ ∃ x2, fs[0]? = some (mR x2) ∧ ∃ (fs : List mx_V), sH σ (x2) = some (.inl (8, fs)) ∧ ∃ (r4 : Int) (σ3 : mx_S), mx_MS Y8_sizeAt [mR x2, mI l1] σ (.inl (some (mI r4), σ3)) ∧ sK σ3 ≤ kb ∧ sW σ3 ≤ wb ∧ (r4 ≤ l2 → mx_J Y9_putInOrder kb wb 15 [some (mR l0), some (mI (mx_w (l1 + (1 : Int)))), none] [] σ3 Q) ∧ (¬ (r4 ≤ l2) → ∃ (fs : List mx_V), sH σ3 (l0) = some (.inl (9, fs)) ∧ ∃ (σ6 : mx_S), mx_MS Y9_putIn [mR l0, mI l1, mI l2] σ3 (.inl (none, σ6)) ∧ sK σ6 ≤ kb ∧ sW σ6 ≤ wb ∧ mx_J Y9_putInOrder kb wb 28 [some (mR l0), some (mI l1), some (mI (mx_w (l2 + (1 : Int))))] [] σ6 Q)) : mx_J Y9_putInOrder kb wb 28 [some (mR l0), some (mI l1), some (mI l2)] [] σ Q := by
  refine mj_iload_n (k := 2) dX9_putInOrder_28 rfl rfl ?_
  refine mj_aload_n (k := 0) dX9_putInOrder_29 rfl rfl ?_
  obtain ⟨fs1, hffs1, x2, hxx2, K⟩ := K
  refine mj_get dX9_putInOrder_30 lf_Y9_putInOrder_12 hffs1 hxx2 ?_
  refine mj_iload_n (k := 1) dX9_putInOrder_33 rfl rfl ?_
  obtain ⟨fs5, hbfs5, K⟩ := K
  obtain ⟨r4, σ3, hMσ3, hkσ3, hwσ3, K⟩ := K
  refine mj_callV (As := [mI l1]) (rest := [mI l2]) (b := x2) dX9_putInOrder_34 k_Y9_putInOrder_46 rfl hbfs5 rfl (Nat.le_of_ble_eq_true rfl) hMσ3 hkσ3 hwσ3 ?_
  refine mj_icmp_ge (tgt := 52) dX9_putInOrder_37 (by decide) ⟨fun h => ?_, fun h => ?_⟩
  · replace K := K.1 h
    refine mj_iinc (k := 1) (ls' := [some (mR l0), some (mI (mx_w (l1 + (1 : Int)))), some (mI l2)]) dX9_putInOrder_52 rfl (by decide) rfl ?_
    refine mj_goto (tgt := 15) dX9_putInOrder_55 (by decide) ?_
    exact mj_forget (ls' := [some (mR l0), some (mI (mx_w (l1 + (1 : Int)))), none]) ⟨rfl, ⟨rfl, trivial⟩⟩ K
  · replace K := K.2 h
    refine mj_aload_n (k := 0) dX9_putInOrder_40 rfl rfl ?_
    refine mj_iload_n (k := 1) dX9_putInOrder_41 rfl rfl ?_
    refine mj_iload_n (k := 2) dX9_putInOrder_42 rfl rfl ?_
    obtain ⟨fs7, hbfs7, K⟩ := K
    obtain ⟨σ6, hMσ6, hkσ6, hwσ6, K⟩ := K
    refine mj_callV (As := [mI l1, mI l2]) (rest := []) (b := l0) dX9_putInOrder_43 k_Y9_putInOrder_50 rfl hbfs7 rfl (Nat.le_of_ble_eq_true rfl) hMσ6 hkσ6 hwσ6 ?_
    refine mj_iinc (k := 2) (ls' := [some (mR l0), some (mI l1), some (mI (mx_w (l2 + (1 : Int))))]) dX9_putInOrder_46 rfl (by decide) rfl ?_
    refine mj_goto (tgt := 28) dX9_putInOrder_49 (by decide) ?_
    exact K
theorem B_Y9_putInOrder_105 {kb wb : Nat} {σ : mx_S} {Q : mx_R → Prop} {l0 : Nat} {l1 : Int} {l2 : Int} (K : ∃ (fs : List mx_V), sH σ (l0) = some (.inl (9, fs)) ∧ ∃ x2, fs[3]? = some (mR x2) ∧ (¬ l1 = (0 : Int) → ∃ (fs : List mx_V), sH σ (l0) = some (.inl (9, fs)) ∧ ∃ x4, fs[0]? = some (mR x4) ∧ ∃ (fs : List mx_V), sH σ (l0) = some (.inl (9, fs)) ∧ ∃ (r6 : Int) (σ5 : mx_S), mx_MS Y9_slotAt [mR l0, mI (mx_w (l1 - (1 : Int)))] σ (.inl (some (mI r6), σ5)) ∧ sK σ5 ≤ kb ∧ sW σ5 ≤ wb ∧ ∃ (fs : List mx_V), sH σ5 (l0) = some (.inl (9, fs)) ∧ ∃ (r9 : Int) (σ8 : mx_S), mx_MS Y9_placeAt [mR l0, mI (mx_w (l1 - (1 : Int)))] σ5 (.inl (some (mI r9), σ8)) ∧ sK σ8 ≤ kb ∧ sW σ8 ≤ wb ∧ ∃ (fs : List mx_V), sH σ8 (l0) = some (.inl (9, fs)) ∧ ∃ (r12 : Int) (σ11 : mx_S), mx_MS Y9_slotAt [mR l0, mI l1] σ8 (.inl (some (mI r12), σ11)) ∧ sK σ11 ≤ kb ∧ sW σ11 ≤ wb ∧ ∃ (fs : List mx_V), sH σ11 (l0) = some (.inl (9, fs)) ∧ ∃ (r15 : Int) (σ14 : mx_S), mx_MS Y9_placeAt [mR l0, mI l1] σ11 (.inl (some (mI r15), σ14)) ∧ sK σ14 ≤ kb ∧ sW σ14 ≤ wb ∧ ∃ (fs : List mx_V), sH σ14 (x4) = some (.inl (8, fs)) ∧ ∃ (r18 : Int) (σ17 : mx_S), mx_MS Y8_shared [mR x4, mI r6, mI r9, mI r12, mI r15] σ14 (.inl (some (mI r18), σ17)) ∧ sK σ17 ≤ kb ∧ sW σ17 ≤ wb ∧ mx_J Y9_putInOrder kb wb 149 [some (mR l0), some (mI l1), some (mI l2)] [mI r18, mI l1, mR x2] σ17 Q) ∧ (¬ (¬ l1 = (0 : Int)) → mx_J Y9_putInOrder kb wb 149 [some (mR l0), some (mI l1), some (mI l2)] [mI ((0 : Int)), mI l1, mR x2] σ Q)) : mx_J Y9_putInOrder kb wb 105 [some (mR l0), some (mI l1), some (mI l2)] [] σ Q := by
  refine mj_aload_n (k := 0) dX9_putInOrder_105 rfl rfl ?_
  obtain ⟨fs1, hffs1, x2, hxx2, K⟩ := K
  refine mj_get dX9_putInOrder_106 lf_Y9_putInOrder_25 hffs1 hxx2 ?_
  refine mj_iload_n (k := 1) dX9_putInOrder_109 rfl rfl ?_
  refine mj_iload_n (k := 1) dX9_putInOrder_110 rfl rfl ?_
  refine mj_if_ne (tgt := 118) dX9_putInOrder_111 (by decide) ⟨fun h => ?_, fun h => ?_⟩
  · replace K := K.1 h
    refine mj_aload_n (k := 0) dX9_putInOrder_118 rfl rfl ?_
    obtain ⟨fs3, hffs3, x4, hxx4, K⟩ := K
    refine mj_get dX9_putInOrder_119 lf_Y9_putInOrder_12 hffs3 hxx4 ?_
    refine mj_aload_n (k := 0) dX9_putInOrder_122 rfl rfl ?_
    refine mj_iload_n (k := 1) dX9_putInOrder_123 rfl rfl ?_
    refine mj_iconst dX9_putInOrder_124 ⟨by decide, by decide⟩ ?_
    refine mj_isub dX9_putInOrder_125 ?_
    obtain ⟨fs7, hbfs7, K⟩ := K
    obtain ⟨r6, σ5, hMσ5, hkσ5, hwσ5, K⟩ := K
    refine mj_callV (As := [mI (mx_w (l1 - (1 : Int)))]) (rest := [mR x4, mI l1, mR x2]) (b := l0) dX9_putInOrder_126 k_Y9_putInOrder_54 rfl hbfs7 rfl (Nat.le_of_ble_eq_true rfl) hMσ5 hkσ5 hwσ5 ?_
    refine mj_aload_n (k := 0) dX9_putInOrder_129 rfl rfl ?_
    refine mj_iload_n (k := 1) dX9_putInOrder_130 rfl rfl ?_
    refine mj_iconst dX9_putInOrder_131 ⟨by decide, by decide⟩ ?_
    refine mj_isub dX9_putInOrder_132 ?_
    obtain ⟨fs10, hbfs10, K⟩ := K
    obtain ⟨r9, σ8, hMσ8, hkσ8, hwσ8, K⟩ := K
    refine mj_callV (As := [mI (mx_w (l1 - (1 : Int)))]) (rest := [mI r6, mR x4, mI l1, mR x2]) (b := l0) dX9_putInOrder_133 k_Y9_putInOrder_57 rfl hbfs10 rfl (Nat.le_of_ble_eq_true rfl) hMσ8 hkσ8 hwσ8 ?_
    refine mj_aload_n (k := 0) dX9_putInOrder_136 rfl rfl ?_
    refine mj_iload_n (k := 1) dX9_putInOrder_137 rfl rfl ?_
    obtain ⟨fs13, hbfs13, K⟩ := K
    obtain ⟨r12, σ11, hMσ11, hkσ11, hwσ11, K⟩ := K
    refine mj_callV (As := [mI l1]) (rest := [mI r9, mI r6, mR x4, mI l1, mR x2]) (b := l0) dX9_putInOrder_138 k_Y9_putInOrder_54 rfl hbfs13 rfl (Nat.le_of_ble_eq_true rfl) hMσ11 hkσ11 hwσ11 ?_
    refine mj_aload_n (k := 0) dX9_putInOrder_141 rfl rfl ?_
    refine mj_iload_n (k := 1) dX9_putInOrder_142 rfl rfl ?_
    obtain ⟨fs16, hbfs16, K⟩ := K
    obtain ⟨r15, σ14, hMσ14, hkσ14, hwσ14, K⟩ := K
    refine mj_callV (As := [mI l1]) (rest := [mI r12, mI r9, mI r6, mR x4, mI l1, mR x2]) (b := l0) dX9_putInOrder_143 k_Y9_putInOrder_57 rfl hbfs16 rfl (Nat.le_of_ble_eq_true rfl) hMσ14 hkσ14 hwσ14 ?_
    obtain ⟨fs19, hbfs19, K⟩ := K
    obtain ⟨r18, σ17, hMσ17, hkσ17, hwσ17, K⟩ := K
    refine mj_callV (As := [mI r6, mI r9, mI r12, mI r15]) (rest := [mI l1, mR x2]) (b := x4) dX9_putInOrder_146 k_Y9_putInOrder_60 rfl hbfs19 rfl (Nat.le_of_ble_eq_true rfl) hMσ17 hkσ17 hwσ17 ?_
    exact K
  · replace K := K.2 h
    refine mj_iconst dX9_putInOrder_114 ⟨by decide, by decide⟩ ?_
    refine mj_goto (tgt := 149) dX9_putInOrder_115 (by decide) ?_
    exact K
theorem B_Y9_putInOrder_149 {kb wb : Nat} {σ : mx_S} {Q : mx_R → Prop} {l0 : Nat} {l1 : Int} {l2 : Int} {s0 : Int} {s1 : Int} {s2 : Nat} (K : ∃ (n1 : Nat) (f : Nat → mx_V), sH σ (s2) = some (.inr (0, n1, f)) ∧ sB σ ≤ s2 ∧ 0 ≤ s1 ∧ s1 < (n1 : Int) ∧ ∀ σ2, σ2 = mx_wr σ (s2) (.inr (0, n1, upV f (s1).toNat (mI s0))) → mx_J Y9_putInOrder kb wb 65 [some (mR l0), some (mI (mx_w (l1 + (1 : Int)))), none] [] σ2 Q) : mx_J Y9_putInOrder kb wb 149 [some (mR l0), some (mI l1), some (mI l2)] [mI s0, mI s1, mR s2] σ Q := by
  obtain ⟨n1, fn1, hfn1, hbn1, h0n1, h1n1, K⟩ := K
  replace K := K _ rfl
  refine mj_iast dX9_putInOrder_149 hfn1 hbn1 h0n1 h1n1 ?_
  generalize mx_wr σ (s2) (.inr (0, n1, upV fn1 (s1).toNat (mI s0))) = σ2 at K ⊢
  refine mj_iinc (k := 1) (ls' := [some (mR l0), some (mI (mx_w (l1 + (1 : Int)))), some (mI l2)]) dX9_putInOrder_150 rfl (by decide) rfl ?_
  refine mj_goto (tgt := 65) dX9_putInOrder_153 (by decide) ?_
  exact mj_forget (ls' := [some (mR l0), some (mI (mx_w (l1 + (1 : Int)))), none]) ⟨rfl, ⟨rfl, trivial⟩⟩ K
theorem B_Y9_rankAt_0 {kb wb : Nat} {σ : mx_S} {Q : mx_R → Prop} {l0 : Nat} {l1 : Int} {l2 : Int} (K : ∃ (fs : List mx_V), sH σ (l0) = some (.inl (9, fs)) ∧ ∃ x2, fs[0]? = some (mR x2) ∧ ∃ (fs : List mx_V), sH σ (x2) = some (.inl (8, fs)) ∧ ∃ (r4 : Int) (σ3 : mx_S), mx_MS Y8_letter [mR x2, mI l1, mI l2] σ (.inl (some (mI r4), σ3)) ∧ sK σ3 ≤ kb ∧ sW σ3 ≤ wb ∧ (¬ r4 = (0 : Int) → ∃ (fs : List mx_V), sH σ3 (l0) = some (.inl (9, fs)) ∧ ∃ x7, fs[2]? = some (mR x7) ∧ ∃ (n8 : Nat) (f : Nat → mx_V), sH σ3 (x7) = some (.inr (0, n8, f)) ∧ 0 ≤ mx_w (mx_w (l1 * (40 : Int)) + l2) ∧ mx_w (mx_w (l1 * (40 : Int)) + l2) < (n8 : Int) ∧ ∃ x9, f (mx_w (mx_w (l1 * (40 : Int)) + l2)).toNat = mI x9 ∧ Q (.inl (some (mI x9), σ3))) ∧ (¬ (¬ r4 = (0 : Int)) → Q (.inl (some (mI ((-1 : Int))), σ3)))) : mx_J Y9_rankAt kb wb 0 [some (mR l0), some (mI l1), some (mI l2)] [] σ Q := by
  refine mj_aload_n (k := 0) dX9_rankAt_0 rfl rfl ?_
  obtain ⟨fs1, hffs1, x2, hxx2, K⟩ := K
  refine mj_get dX9_rankAt_1 lf_Y9_rankAt_12 hffs1 hxx2 ?_
  refine mj_iload_n (k := 1) dX9_rankAt_4 rfl rfl ?_
  refine mj_iload_n (k := 2) dX9_rankAt_5 rfl rfl ?_
  obtain ⟨fs5, hbfs5, K⟩ := K
  obtain ⟨r4, σ3, hMσ3, hkσ3, hwσ3, K⟩ := K
  refine mj_callV (As := [mI l1, mI l2]) (rest := []) (b := x2) dX9_rankAt_6 k_Y9_rankAt_76 rfl hbfs5 rfl (Nat.le_of_ble_eq_true rfl) hMσ3 hkσ3 hwσ3 ?_
  refine mj_if_ne (tgt := 16) dX9_rankAt_9 (by decide) ⟨fun h => ?_, fun h => ?_⟩
  · replace K := K.1 h
    refine mj_aload_n (k := 0) dX9_rankAt_16 rfl rfl ?_
    obtain ⟨fs6, hffs6, x7, hxx7, K⟩ := K
    refine mj_get dX9_rankAt_17 lf_Y9_rankAt_22 hffs6 hxx7 ?_
    refine mj_iload_n (k := 1) dX9_rankAt_20 rfl rfl ?_
    refine mj_bipush (n := 40) dX9_rankAt_21 ⟨by decide, by decide⟩ (by decide) ?_
    refine mj_imul dX9_rankAt_23 ?_
    refine mj_iload_n (k := 2) dX9_rankAt_24 rfl rfl ?_
    refine mj_iadd dX9_rankAt_25 ?_
    obtain ⟨n8, fn8, hfn8, h0n8, h1n8, x9, hxx9, K⟩ := K
    refine mj_iald dX9_rankAt_26 hfn8 h0n8 h1n8 ?_
    rw [hxx9]
    exact mj_ret (v := some (mI x9)) ⟨dX9_rankAt_27, .int, rfl, rfl⟩ K
  · replace K := K.2 h
    refine mj_iconst dX9_rankAt_12 ⟨by decide, by decide⟩ ?_
    refine mj_goto (tgt := 27) dX9_rankAt_13 (by decide) ?_
    exact mj_ret (v := some (mI ((-1 : Int)))) ⟨dX9_rankAt_27, .int, rfl, rfl⟩ K
theorem B_Y9_isRising_0 {kb wb : Nat} {σ : mx_S} {Q : mx_R → Prop} {l0 : Nat} {l1 : Int} (K : ∃ (fs : List mx_V), sH σ (l0) = some (.inl (9, fs)) ∧ ∃ x2, fs[0]? = some (mR x2) ∧ ∃ (fs : List mx_V), sH σ (l0) = some (.inl (9, fs)) ∧ ∃ (r4 : Int) (σ3 : mx_S), mx_MS Y9_slotAt [mR l0, mI (mx_w (l1 - (1 : Int)))] σ (.inl (some (mI r4), σ3)) ∧ sK σ3 ≤ kb ∧ sW σ3 ≤ wb ∧ ∃ (fs : List mx_V), sH σ3 (l0) = some (.inl (9, fs)) ∧ ∃ (r7 : Int) (σ6 : mx_S), mx_MS Y9_placeAt [mR l0, mI (mx_w (l1 - (1 : Int)))] σ3 (.inl (some (mI r7), σ6)) ∧ sK σ6 ≤ kb ∧ sW σ6 ≤ wb ∧ ∃ (fs : List mx_V), sH σ6 (l0) = some (.inl (9, fs)) ∧ ∃ (r10 : Int) (σ9 : mx_S), mx_MS Y9_slotAt [mR l0, mI l1] σ6 (.inl (some (mI r10), σ9)) ∧ sK σ9 ≤ kb ∧ sW σ9 ≤ wb ∧ ∃ (fs : List mx_V), sH σ9 (l0) = some (.inl (9, fs)) ∧ ∃ (r13 : Int) (σ12 : mx_S), mx_MS Y9_placeAt [mR l0, mI l1] σ9 (.inl (some (mI r13), σ12)) ∧ sK σ12 ≤ kb ∧ sW σ12 ≤ wb ∧ ∃ (fs : List mx_V), sH σ12 (x2) = some (.inl (8, fs)) ∧ ∃ (r16 : Int) (σ15 : mx_S), mx_MS Y8_compare [mR x2, mI r4, mI r7, mI r10, mI r13] σ12 (.inl (some (mI r16), σ15)) ∧ sK σ15 ≤ kb ∧ sW σ15 ≤ wb ∧ ((0 : Int) ≤ r16 → Q (.inl (some (mI ((0 : Int))), σ15))) ∧ (¬ ((0 : Int) ≤ r16) → Q (.inl (some (mI ((1 : Int))), σ15)))) : mx_J Y9_isRising kb wb 0 [some (mR l0), some (mI l1)] [] σ Q := by
  refine mj_aload_n (k := 0) dX9_isRising_0 rfl rfl ?_
  obtain ⟨fs1, hffs1, x2, hxx2, K⟩ := K
  refine mj_get dX9_isRising_1 lf_Y9_isRising_12 hffs1 hxx2 ?_
  refine mj_aload_n (k := 0) dX9_isRising_4 rfl rfl ?_
  refine mj_iload_n (k := 1) dX9_isRising_5 rfl rfl ?_
  refine mj_iconst dX9_isRising_6 ⟨by decide, by decide⟩ ?_
  refine mj_isub dX9_isRising_7 ?_
  obtain ⟨fs5, hbfs5, K⟩ := K
  obtain ⟨r4, σ3, hMσ3, hkσ3, hwσ3, K⟩ := K
  refine mj_callV (As := [mI (mx_w (l1 - (1 : Int)))]) (rest := [mR x2]) (b := l0) dX9_isRising_8 k_Y9_isRising_54 rfl hbfs5 rfl (Nat.le_of_ble_eq_true rfl) hMσ3 hkσ3 hwσ3 ?_
  refine mj_aload_n (k := 0) dX9_isRising_11 rfl rfl ?_
  refine mj_iload_n (k := 1) dX9_isRising_12 rfl rfl ?_
  refine mj_iconst dX9_isRising_13 ⟨by decide, by decide⟩ ?_
  refine mj_isub dX9_isRising_14 ?_
  obtain ⟨fs8, hbfs8, K⟩ := K
  obtain ⟨r7, σ6, hMσ6, hkσ6, hwσ6, K⟩ := K
  refine mj_callV (As := [mI (mx_w (l1 - (1 : Int)))]) (rest := [mI r4, mR x2]) (b := l0) dX9_isRising_15 k_Y9_isRising_57 rfl hbfs8 rfl (Nat.le_of_ble_eq_true rfl) hMσ6 hkσ6 hwσ6 ?_
  refine mj_aload_n (k := 0) dX9_isRising_18 rfl rfl ?_
  refine mj_iload_n (k := 1) dX9_isRising_19 rfl rfl ?_
  obtain ⟨fs11, hbfs11, K⟩ := K
  obtain ⟨r10, σ9, hMσ9, hkσ9, hwσ9, K⟩ := K
  refine mj_callV (As := [mI l1]) (rest := [mI r7, mI r4, mR x2]) (b := l0) dX9_isRising_20 k_Y9_isRising_54 rfl hbfs11 rfl (Nat.le_of_ble_eq_true rfl) hMσ9 hkσ9 hwσ9 ?_
  refine mj_aload_n (k := 0) dX9_isRising_23 rfl rfl ?_
  refine mj_iload_n (k := 1) dX9_isRising_24 rfl rfl ?_
  obtain ⟨fs14, hbfs14, K⟩ := K
  obtain ⟨r13, σ12, hMσ12, hkσ12, hwσ12, K⟩ := K
  refine mj_callV (As := [mI l1]) (rest := [mI r10, mI r7, mI r4, mR x2]) (b := l0) dX9_isRising_25 k_Y9_isRising_57 rfl hbfs14 rfl (Nat.le_of_ble_eq_true rfl) hMσ12 hkσ12 hwσ12 ?_
  obtain ⟨fs17, hbfs17, K⟩ := K
  obtain ⟨r16, σ15, hMσ15, hkσ15, hwσ15, K⟩ := K
  refine mj_callV (As := [mI r4, mI r7, mI r10, mI r13]) (rest := []) (b := x2) dX9_isRising_28 k_Y9_isRising_64 rfl hbfs17 rfl (Nat.le_of_ble_eq_true rfl) hMσ15 hkσ15 hwσ15 ?_
  refine mj_if_ge (tgt := 38) dX9_isRising_31 (by decide) ⟨fun h => ?_, fun h => ?_⟩
  · replace K := K.1 h
    refine mj_iconst dX9_isRising_38 ⟨by decide, by decide⟩ ?_
    exact mj_ret (v := some (mI ((0 : Int)))) ⟨dX9_isRising_39, .boolean, rfl, by decide⟩ K
  · replace K := K.2 h
    refine mj_iconst dX9_isRising_34 ⟨by decide, by decide⟩ ?_
    refine mj_goto (tgt := 39) dX9_isRising_35 (by decide) ?_
    exact mj_ret (v := some (mI ((1 : Int)))) ⟨dX9_isRising_39, .boolean, rfl, by decide⟩ K
theorem B_Y9_turnedAt_0 {kb wb : Nat} {σ : mx_S} {Q : mx_R → Prop} {l0 : Nat} {l1 : Int} (K : ∃ (fs : List mx_V), sH σ (l0) = some (.inl (9, fs)) ∧ ∃ (r2 : Int) (σ1 : mx_S), mx_MS Y9_placeAt [mR l0, mI l1] σ (.inl (some (mI r2), σ1)) ∧ sK σ1 ≤ kb ∧ sW σ1 ≤ wb ∧ (¬ r2 = (0 : Int) → ∃ (fs : List mx_V), sH σ1 (l0) = some (.inl (9, fs)) ∧ ∃ x5, fs[0]? = some (mR x5) ∧ ∃ (fs : List mx_V), sH σ1 (l0) = some (.inl (9, fs)) ∧ ∃ (r7 : Int) (σ6 : mx_S), mx_MS Y9_slotAt [mR l0, mI l1] σ1 (.inl (some (mI r7), σ6)) ∧ sK σ6 ≤ kb ∧ sW σ6 ≤ wb ∧ ∃ (fs : List mx_V), sH σ6 (x5) = some (.inl (8, fs)) ∧ ∃ (r10 : Int) (σ9 : mx_S), mx_MS Y8_letter [mR x5, mI r7, mI (mx_w (r2 - (1 : Int)))] σ6 (.inl (some (mI r10), σ9)) ∧ sK σ9 ≤ kb ∧ sW σ9 ≤ wb ∧ 0 ≤ r10 ∧ r10 ≤ 65535 ∧ Q (.inl (some (mI r10), σ9))) ∧ (¬ (¬ r2 = (0 : Int)) → Q (.inl (some (mI ((36 : Int))), σ1)))) : mx_J Y9_turnedAt kb wb 0 [some (mR l0), some (mI l1), none] [] σ Q := by
  refine mj_aload_n (k := 0) dX9_turnedAt_0 rfl rfl ?_
  refine mj_iload_n (k := 1) dX9_turnedAt_1 rfl rfl ?_
  obtain ⟨fs3, hbfs3, K⟩ := K
  obtain ⟨r2, σ1, hMσ1, hkσ1, hwσ1, K⟩ := K
  refine mj_callV (As := [mI l1]) (rest := []) (b := l0) dX9_turnedAt_2 k_Y9_turnedAt_57 rfl hbfs3 rfl (Nat.le_of_ble_eq_true rfl) hMσ1 hkσ1 hwσ1 ?_
  refine mj_istore_n (k := 2) (ls' := [some (mR l0), some (mI l1), some (mI r2)]) dX9_turnedAt_5 rfl (by decide) rfl ?_
  refine mj_iload_n (k := 2) dX9_turnedAt_6 rfl rfl ?_
  refine mj_if_ne (tgt := 15) dX9_turnedAt_7 (by decide) ⟨fun h => ?_, fun h => ?_⟩
  · replace K := K.1 h
    refine mj_aload_n (k := 0) dX9_turnedAt_15 rfl rfl ?_
    obtain ⟨fs4, hffs4, x5, hxx5, K⟩ := K
    refine mj_get dX9_turnedAt_16 lf_Y9_turnedAt_12 hffs4 hxx5 ?_
    refine mj_aload_n (k := 0) dX9_turnedAt_19 rfl rfl ?_
    refine mj_iload_n (k := 1) dX9_turnedAt_20 rfl rfl ?_
    obtain ⟨fs8, hbfs8, K⟩ := K
    obtain ⟨r7, σ6, hMσ6, hkσ6, hwσ6, K⟩ := K
    refine mj_callV (As := [mI l1]) (rest := [mR x5]) (b := l0) dX9_turnedAt_21 k_Y9_turnedAt_54 rfl hbfs8 rfl (Nat.le_of_ble_eq_true rfl) hMσ6 hkσ6 hwσ6 ?_
    refine mj_iload_n (k := 2) dX9_turnedAt_24 rfl rfl ?_
    refine mj_iconst dX9_turnedAt_25 ⟨by decide, by decide⟩ ?_
    refine mj_isub dX9_turnedAt_26 ?_
    obtain ⟨fs11, hbfs11, K⟩ := K
    obtain ⟨r10, σ9, hMσ9, hkσ9, hwσ9, K⟩ := K
    refine mj_callV (As := [mI r7, mI (mx_w (r2 - (1 : Int)))]) (rest := []) (b := x5) dX9_turnedAt_27 k_Y9_turnedAt_76 rfl hbfs11 rfl (Nat.le_of_ble_eq_true rfl) hMσ9 hkσ9 hwσ9 ?_
    exact mj_ret (v := some (mI r10)) ⟨dX9_turnedAt_30, .char, rfl, mx_nch K.1 K.2.1⟩ K.2.2
  · replace K := K.2 h
    refine mj_bipush (n := 36) dX9_turnedAt_10 ⟨by decide, by decide⟩ (by decide) ?_
    refine mj_goto (tgt := 30) dX9_turnedAt_12 (by decide) ?_
    exact mj_ret (v := some (mI ((36 : Int)))) ⟨dX9_turnedAt_30, .char, rfl, by decide⟩ K
theorem B_Y8_places_0 {kb wb : Nat} {σ : mx_S} {Q : mx_R → Prop} {l0 : Nat} (K : mx_J Y8_places kb wb 4 [some (mR l0), some (mI ((0 : Int))), some (mI ((0 : Int)))] [] σ Q) : mx_J Y8_places kb wb 0 [some (mR l0), none, none] [] σ Q := by
  refine mj_iconst dX8_places_0 ⟨by decide, by decide⟩ ?_
  refine mj_istore_n (k := 1) (ls' := [some (mR l0), some (mI ((0 : Int))), none]) dX8_places_1 rfl (by decide) rfl ?_
  refine mj_iconst dX8_places_2 ⟨by decide, by decide⟩ ?_
  refine mj_istore_n (k := 2) (ls' := [some (mR l0), some (mI ((0 : Int))), some (mI ((0 : Int)))]) dX8_places_3 rfl (by decide) rfl ?_
  exact K
theorem B_Y8_places_4 {kb wb : Nat} {σ : mx_S} {Q : mx_R → Prop} {l0 : Nat} {l1 : Int} {l2 : Int} (K : ∃ (fs : List mx_V), sH σ (l0) = some (.inl (8, fs)) ∧ ∃ x2, fs[3]? = some (mI x2) ∧ (x2 ≤ l2 → Q (.inl (some (mI l1), σ))) ∧ (¬ (x2 ≤ l2) → ∃ (fs : List mx_V), sH σ (l0) = some (.inl (8, fs)) ∧ ∃ (r4 : Int) (σ3 : mx_S), mx_MS Y8_sizeAt [mR l0, mI l2] σ (.inl (some (mI r4), σ3)) ∧ sK σ3 ≤ kb ∧ sW σ3 ≤ wb ∧ mx_J Y8_places kb wb 4 [some (mR l0), some (mI (mx_w (l1 + r4))), some (mI (mx_w (l2 + (1 : Int))))] [] σ3 Q)) : mx_J Y8_places kb wb 4 [some (mR l0), some (mI l1), some (mI l2)] [] σ Q := by
  refine mj_iload_n (k := 2) dX8_places_4 rfl rfl ?_
  refine mj_aload_n (k := 0) dX8_places_5 rfl rfl ?_
  obtain ⟨fs1, hffs1, x2, hxx2, K⟩ := K
  refine mj_get dX8_places_6 lf_Y8_places_22 hffs1 hxx2 ?_
  refine mj_icmp_ge (tgt := 26) dX8_places_9 (by decide) ⟨fun h => ?_, fun h => ?_⟩
  · replace K := K.1 h
    refine mj_iload_n (k := 1) dX8_places_26 rfl rfl ?_
    exact mj_ret (v := some (mI l1)) ⟨dX8_places_27, .int, rfl, rfl⟩ K
  · replace K := K.2 h
    refine mj_iload_n (k := 1) dX8_places_12 rfl rfl ?_
    refine mj_aload_n (k := 0) dX8_places_13 rfl rfl ?_
    refine mj_iload_n (k := 2) dX8_places_14 rfl rfl ?_
    obtain ⟨fs5, hbfs5, K⟩ := K
    obtain ⟨r4, σ3, hMσ3, hkσ3, hwσ3, K⟩ := K
    refine mj_callV (As := [mI l2]) (rest := [mI l1]) (b := l0) dX8_places_15 k_Y8_places_34 rfl hbfs5 rfl (Nat.le_of_ble_eq_true rfl) hMσ3 hkσ3 hwσ3 ?_
    refine mj_iadd dX8_places_18 ?_
    refine mj_istore_n (k := 1) (ls' := [some (mR l0), some (mI (mx_w (l1 + r4))), some (mI l2)]) dX8_places_19 rfl (by decide) rfl ?_
    refine mj_iinc (k := 2) (ls' := [some (mR l0), some (mI (mx_w (l1 + r4))), some (mI (mx_w (l2 + (1 : Int))))]) dX8_places_20 rfl (by decide) rfl ?_
    refine mj_goto (tgt := 4) dX8_places_23 (by decide) ?_
    exact K
theorem B_Y9_isInOrder_0 {kb wb : Nat} {σ : mx_S} {Q : mx_R → Prop} {l0 : Nat} (K : ∃ (fs : List mx_V), sH σ (l0) = some (.inl (9, fs)) ∧ ∃ (σ1 : mx_S), mx_MS Y9_putInOrder [mR l0] σ (.inl (none, σ1)) ∧ sK σ1 ≤ kb ∧ sW σ1 ≤ wb ∧ mx_J Y9_isInOrder kb wb 8 [some (mR l0), some (mI ((0 : Int))), some (mI ((0 : Int))), none, none] [] σ1 Q) : mx_J Y9_isInOrder kb wb 0 [some (mR l0), none, none, none, none] [] σ Q := by
  refine mj_aload_n (k := 0) dX9_isInOrder_0 rfl rfl ?_
  obtain ⟨fs2, hbfs2, K⟩ := K
  obtain ⟨σ1, hMσ1, hkσ1, hwσ1, K⟩ := K
  refine mj_callV (As := []) (rest := []) (b := l0) dX9_isInOrder_1 k_Y9_isInOrder_122 rfl hbfs2 rfl (Nat.le_of_ble_eq_true rfl) hMσ1 hkσ1 hwσ1 ?_
  refine mj_iconst dX9_isInOrder_4 ⟨by decide, by decide⟩ ?_
  refine mj_istore_n (k := 1) (ls' := [some (mR l0), some (mI ((0 : Int))), none, none, none]) dX9_isInOrder_5 rfl (by decide) rfl ?_
  refine mj_iconst dX9_isInOrder_6 ⟨by decide, by decide⟩ ?_
  refine mj_istore_n (k := 2) (ls' := [some (mR l0), some (mI ((0 : Int))), some (mI ((0 : Int))), none, none]) dX9_isInOrder_7 rfl (by decide) rfl ?_
  exact K
theorem B_Y9_isInOrder_8 {kb wb : Nat} {σ : mx_S} {Q : mx_R → Prop} {l0 : Nat} {l1 : Int} {l2 : Int} (K : ∃ (fs : List mx_V), sH σ (l0) = some (.inl (9, fs)) ∧ ∃ x2, fs[4]? = some (mI x2) ∧ (x2 ≤ l2 → ∃ (fs : List mx_V), sH σ (l0) = some (.inl (9, fs)) ∧ ∃ x4, fs[4]? = some (mI x4) ∧ ∃ (fs : List mx_V), sH σ (l0) = some (.inl (9, fs)) ∧ ∃ x6, fs[0]? = some (mR x6) ∧ ∃ (fs : List mx_V), sH σ (x6) = some (.inl (8, fs)) ∧ ∃ (r8 : Int) (σ7 : mx_S), mx_MS Y8_places [mR x6] σ (.inl (some (mI r8), σ7)) ∧ sK σ7 ≤ kb ∧ sW σ7 ≤ wb ∧ (¬ x4 = r8 → Q (.inl (some (mI ((0 : Int))), σ7))) ∧ (¬ (¬ x4 = r8) → ∃ (fs : List mx_V), sH σ7 (l0) = some (.inl (9, fs)) ∧ ∃ x11, fs[0]? = some (mR x11) ∧ ∃ (fs : List mx_V), sH σ7 (x11) = some (.inl (8, fs)) ∧ ∃ (r13 : Int) (σ12 : mx_S), mx_MS Y8_many [mR x11] σ7 (.inl (some (mI r13), σ12)) ∧ sK σ12 ≤ kb ∧ sW σ12 ≤ wb ∧ (¬ l1 = r13 → Q (.inl (some (mI ((0 : Int))), σ12))) ∧ (¬ (¬ l1 = r13) → Q (.inl (some (mI ((1 : Int))), σ12))))) ∧ (¬ (x2 ≤ l2) → ∃ (fs : List mx_V), sH σ (l0) = some (.inl (9, fs)) ∧ ∃ (r16 : Int) (σ15 : mx_S), mx_MS Y9_slotAt [mR l0, mI l2] σ (.inl (some (mI r16), σ15)) ∧ sK σ15 ≤ kb ∧ sW σ15 ≤ wb ∧ ∃ (fs : List mx_V), sH σ15 (l0) = some (.inl (9, fs)) ∧ ∃ (r19 : Int) (σ18 : mx_S), mx_MS Y9_placeAt [mR l0, mI l2] σ15 (.inl (some (mI r19), σ18)) ∧ sK σ18 ≤ kb ∧ sW σ18 ≤ wb ∧ ∃ (fs : List mx_V), sH σ18 (l0) = some (.inl (9, fs)) ∧ ∃ (r22 : Int) (σ21 : mx_S), mx_MS Y9_rankAt [mR l0, mI r16, mI r19] σ18 (.inl (some (mI r22), σ21)) ∧ sK σ21 ≤ kb ∧ sW σ21 ≤ wb ∧ (¬ r22 = l2 → Q (.inl (some (mI ((0 : Int))), σ21))) ∧ (¬ (¬ r22 = l2) → (l2 ≤ (0 : Int) → mx_J Y9_isInOrder kb wb 54 [some (mR l0), some (mI l1), some (mI l2), some (mI r16), some (mI r19)] [] σ21 Q) ∧ (¬ (l2 ≤ (0 : Int)) → ∃ (fs : List mx_V), sH σ21 (l0) = some (.inl (9, fs)) ∧ ∃ (r25 : Int) (σ24 : mx_S), mx_MS Y9_isRising [mR l0, mI l2] σ21 (.inl (some (mI r25), σ24)) ∧ sK σ24 ≤ kb ∧ sW σ24 ≤ wb ∧ (¬ r25 = (0 : Int) → mx_J Y9_isInOrder kb wb 54 [some (mR l0), some (mI l1), some (mI l2), some (mI r16), some (mI r19)] [] σ24 Q) ∧ (¬ (¬ r25 = (0 : Int)) → Q (.inl (some (mI ((0 : Int))), σ24))))))) : mx_J Y9_isInOrder kb wb 8 [some (mR l0), some (mI l1), some (mI l2), none, none] [] σ Q := by
  refine mj_iload_n (k := 2) dX9_isInOrder_8 rfl rfl ?_
  refine mj_aload_n (k := 0) dX9_isInOrder_9 rfl rfl ?_
  obtain ⟨fs1, hffs1, x2, hxx2, K⟩ := K
  refine mj_get dX9_isInOrder_10 lf_Y9_isInOrder_32 hffs1 hxx2 ?_
  refine mj_icmp_ge (tgt := 73) dX9_isInOrder_13 (by decide) ⟨fun h => ?_, fun h => ?_⟩
  · replace K := K.1 h
    refine mj_aload_n (k := 0) dX9_isInOrder_73 rfl rfl ?_
    obtain ⟨fs3, hffs3, x4, hxx4, K⟩ := K
    refine mj_get dX9_isInOrder_74 lf_Y9_isInOrder_32 hffs3 hxx4 ?_
    refine mj_aload_n (k := 0) dX9_isInOrder_77 rfl rfl ?_
    obtain ⟨fs5, hffs5, x6, hxx6, K⟩ := K
    refine mj_get dX9_isInOrder_78 lf_Y9_isInOrder_12 hffs5 hxx6 ?_
    obtain ⟨fs9, hbfs9, K⟩ := K
    obtain ⟨r8, σ7, hMσ7, hkσ7, hwσ7, K⟩ := K
    refine mj_callV (As := []) (rest := [mI x4]) (b := x6) dX9_isInOrder_81 k_Y9_isInOrder_80 rfl hbfs9 rfl (Nat.le_of_ble_eq_true rfl) hMσ7 hkσ7 hwσ7 ?_
    refine mj_icmp_ne (tgt := 102) dX9_isInOrder_84 (by decide) ⟨fun h => ?_, fun h => ?_⟩
    · replace K := K.1 h
      refine mj_iconst dX9_isInOrder_102 ⟨by decide, by decide⟩ ?_
      exact mj_ret (v := some (mI ((0 : Int)))) ⟨dX9_isInOrder_103, .boolean, rfl, by decide⟩ K
    · replace K := K.2 h
      refine mj_iload_n (k := 1) dX9_isInOrder_87 rfl rfl ?_
      refine mj_aload_n (k := 0) dX9_isInOrder_88 rfl rfl ?_
      obtain ⟨fs10, hffs10, x11, hxx11, K⟩ := K
      refine mj_get dX9_isInOrder_89 lf_Y9_isInOrder_12 hffs10 hxx11 ?_
      obtain ⟨fs14, hbfs14, K⟩ := K
      obtain ⟨r13, σ12, hMσ12, hkσ12, hwσ12, K⟩ := K
      refine mj_callV (As := []) (rest := [mI l1]) (b := x11) dX9_isInOrder_92 k_Y9_isInOrder_43 rfl hbfs14 rfl (Nat.le_of_ble_eq_true rfl) hMσ12 hkσ12 hwσ12 ?_
      refine mj_icmp_ne (tgt := 102) dX9_isInOrder_95 (by decide) ⟨fun h => ?_, fun h => ?_⟩
      · replace K := K.1 h
        refine mj_iconst dX9_isInOrder_102 ⟨by decide, by decide⟩ ?_
        exact mj_ret (v := some (mI ((0 : Int)))) ⟨dX9_isInOrder_103, .boolean, rfl, by decide⟩ K
      · replace K := K.2 h
        refine mj_iconst dX9_isInOrder_98 ⟨by decide, by decide⟩ ?_
        refine mj_goto (tgt := 103) dX9_isInOrder_99 (by decide) ?_
        exact mj_ret (v := some (mI ((1 : Int)))) ⟨dX9_isInOrder_103, .boolean, rfl, by decide⟩ K
  · replace K := K.2 h
    refine mj_aload_n (k := 0) dX9_isInOrder_16 rfl rfl ?_
    refine mj_iload_n (k := 2) dX9_isInOrder_17 rfl rfl ?_
    obtain ⟨fs17, hbfs17, K⟩ := K
    obtain ⟨r16, σ15, hMσ15, hkσ15, hwσ15, K⟩ := K
    refine mj_callV (As := [mI l2]) (rest := []) (b := l0) dX9_isInOrder_18 k_Y9_isInOrder_54 rfl hbfs17 rfl (Nat.le_of_ble_eq_true rfl) hMσ15 hkσ15 hwσ15 ?_
    refine mj_istore_n (k := 3) (ls' := [some (mR l0), some (mI l1), some (mI l2), some (mI r16), none]) dX9_isInOrder_21 rfl (by decide) rfl ?_
    refine mj_aload_n (k := 0) dX9_isInOrder_22 rfl rfl ?_
    refine mj_iload_n (k := 2) dX9_isInOrder_23 rfl rfl ?_
    obtain ⟨fs20, hbfs20, K⟩ := K
    obtain ⟨r19, σ18, hMσ18, hkσ18, hwσ18, K⟩ := K
    refine mj_callV (As := [mI l2]) (rest := []) (b := l0) dX9_isInOrder_24 k_Y9_isInOrder_57 rfl hbfs20 rfl (Nat.le_of_ble_eq_true rfl) hMσ18 hkσ18 hwσ18 ?_
    refine mj_istore (k := 4) (ls' := [some (mR l0), some (mI l1), some (mI l2), some (mI r16), some (mI r19)]) dX9_isInOrder_27 (by decide) rfl ?_
    refine mj_aload_n (k := 0) dX9_isInOrder_29 rfl rfl ?_
    refine mj_iload_n (k := 3) dX9_isInOrder_30 rfl rfl ?_
    refine mj_iload (k := 4) dX9_isInOrder_31 rfl ?_
    obtain ⟨fs23, hbfs23, K⟩ := K
    obtain ⟨r22, σ21, hMσ21, hkσ21, hwσ21, K⟩ := K
    refine mj_callV (As := [mI r16, mI r19]) (rest := []) (b := l0) dX9_isInOrder_33 k_Y9_isInOrder_119 rfl hbfs23 rfl (Nat.le_of_ble_eq_true rfl) hMσ21 hkσ21 hwσ21 ?_
    refine mj_iload_n (k := 2) dX9_isInOrder_36 rfl rfl ?_
    refine mj_icmp_ne (tgt := 52) dX9_isInOrder_37 (by decide) ⟨fun h => ?_, fun h => ?_⟩
    · replace K := K.1 h
      refine mj_iconst dX9_isInOrder_52 ⟨by decide, by decide⟩ ?_
      exact mj_ret (v := some (mI ((0 : Int)))) ⟨dX9_isInOrder_53, .boolean, rfl, by decide⟩ K
    · replace K := K.2 h
      refine mj_iload_n (k := 2) dX9_isInOrder_40 rfl rfl ?_
      refine mj_if_le (tgt := 54) dX9_isInOrder_41 (by decide) ⟨fun h => ?_, fun h => ?_⟩
      · replace K := K.1 h
        exact K
      · replace K := K.2 h
        refine mj_aload_n (k := 0) dX9_isInOrder_44 rfl rfl ?_
        refine mj_iload_n (k := 2) dX9_isInOrder_45 rfl rfl ?_
        obtain ⟨fs26, hbfs26, K⟩ := K
        obtain ⟨r25, σ24, hMσ24, hkσ24, hwσ24, K⟩ := K
        refine mj_callV (As := [mI l2]) (rest := []) (b := l0) dX9_isInOrder_46 k_Y9_isInOrder_125 rfl hbfs26 rfl (Nat.le_of_ble_eq_true rfl) hMσ24 hkσ24 hwσ24 ?_
        refine mj_if_ne (tgt := 54) dX9_isInOrder_49 (by decide) ⟨fun h => ?_, fun h => ?_⟩
        · replace K := K.1 h
          exact K
        · replace K := K.2 h
          refine mj_iconst dX9_isInOrder_52 ⟨by decide, by decide⟩ ?_
          exact mj_ret (v := some (mI ((0 : Int)))) ⟨dX9_isInOrder_53, .boolean, rfl, by decide⟩ K
theorem B_Y9_isInOrder_54 {kb wb : Nat} {σ : mx_S} {Q : mx_R → Prop} {l0 : Nat} {l1 : Int} {l2 : Int} {l3 : Int} {l4 : Int} (K : ∃ (fs : List mx_V), sH σ (l0) = some (.inl (9, fs)) ∧ ∃ (r2 : Int) (σ1 : mx_S), mx_MS Y9_turnedAt [mR l0, mI l2] σ (.inl (some (mI r2), σ1)) ∧ sK σ1 ≤ kb ∧ sW σ1 ≤ wb ∧ (¬ r2 = (36 : Int) → mx_J Y9_isInOrder kb wb 67 [some (mR l0), some (mI l1), some (mI l2), some (mI l3), some (mI l4)] [] σ1 Q) ∧ (¬ (¬ r2 = (36 : Int)) → mx_J Y9_isInOrder kb wb 67 [some (mR l0), some (mI (mx_w (l1 + (1 : Int)))), some (mI l2), some (mI l3), some (mI l4)] [] σ1 Q)) : mx_J Y9_isInOrder kb wb 54 [some (mR l0), some (mI l1), some (mI l2), some (mI l3), some (mI l4)] [] σ Q := by
  refine mj_aload_n (k := 0) dX9_isInOrder_54 rfl rfl ?_
  refine mj_iload_n (k := 2) dX9_isInOrder_55 rfl rfl ?_
  obtain ⟨fs3, hbfs3, K⟩ := K
  obtain ⟨r2, σ1, hMσ1, hkσ1, hwσ1, K⟩ := K
  refine mj_callV (As := [mI l2]) (rest := []) (b := l0) dX9_isInOrder_56 k_Y9_isInOrder_83 rfl hbfs3 rfl (Nat.le_of_ble_eq_true rfl) hMσ1 hkσ1 hwσ1 ?_
  refine mj_bipush (n := 36) dX9_isInOrder_59 ⟨by decide, by decide⟩ (by decide) ?_
  refine mj_icmp_ne (tgt := 67) dX9_isInOrder_61 (by decide) ⟨fun h => ?_, fun h => ?_⟩
  · replace K := K.1 h
    exact K
  · replace K := K.2 h
    refine mj_iinc (k := 1) (ls' := [some (mR l0), some (mI (mx_w (l1 + (1 : Int)))), some (mI l2), some (mI l3), some (mI l4)]) dX9_isInOrder_64 rfl (by decide) rfl ?_
    exact K
theorem B_Y9_isInOrder_67 {kb wb : Nat} {σ : mx_S} {Q : mx_R → Prop} {l0 : Nat} {l1 : Int} {l2 : Int} {l3 : Int} {l4 : Int} (K : mx_J Y9_isInOrder kb wb 8 [some (mR l0), some (mI l1), some (mI (mx_w (l2 + (1 : Int)))), none, none] [] σ Q) : mx_J Y9_isInOrder kb wb 67 [some (mR l0), some (mI l1), some (mI l2), some (mI l3), some (mI l4)] [] σ Q := by
  refine mj_iinc (k := 2) (ls' := [some (mR l0), some (mI l1), some (mI (mx_w (l2 + (1 : Int)))), some (mI l3), some (mI l4)]) dX9_isInOrder_67 rfl (by decide) rfl ?_
  refine mj_goto (tgt := 8) dX9_isInOrder_70 (by decide) ?_
  exact mj_forget (ls' := [some (mR l0), some (mI l1), some (mI (mx_w (l2 + (1 : Int)))), none, none]) ⟨rfl, ⟨rfl, ⟨rfl, trivial⟩⟩⟩ K
theorem B_Y7_livingAt_0 {kb wb : Nat} {σ : mx_S} {Q : mx_R → Prop} {l0 : Nat} {l1 : Int} (K : ∃ (fs : List mx_V), sH σ (l0) = some (.inl (7, fs)) ∧ ∃ (r2 : Int) (σ1 : mx_S), mx_MS Y7_isSegment [mR l0, mI l1] σ (.inl (some (mI r2), σ1)) ∧ sK σ1 ≤ kb ∧ sW σ1 ≤ wb ∧ (r2 = (0 : Int) → Q (.inl (some (mI ((0 : Int))), σ1))) ∧ (¬ (r2 = (0 : Int)) → ∃ (fs : List mx_V), sH σ1 (l0) = some (.inl (7, fs)) ∧ ∃ x5, fs[0]? = some (mR x5) ∧ ∃ (n6 : Nat) (f : Nat → mx_V), sH σ1 (x5) = some (.inr (0, n6, f)) ∧ 0 ≤ l1 ∧ l1 < (n6 : Int) ∧ ∃ x7, f (l1).toNat = mI x7 ∧ Q (.inl (some (mI x7), σ1)))) : mx_J Y7_livingAt kb wb 0 [some (mR l0), some (mI l1)] [] σ Q := by
  refine mj_aload_n (k := 0) dX7_livingAt_0 rfl rfl ?_
  refine mj_iload_n (k := 1) dX7_livingAt_1 rfl rfl ?_
  obtain ⟨fs3, hbfs3, K⟩ := K
  obtain ⟨r2, σ1, hMσ1, hkσ1, hwσ1, K⟩ := K
  refine mj_callV (As := [mI l1]) (rest := []) (b := l0) dX7_livingAt_2 k_Y7_livingAt_37 rfl hbfs3 rfl (Nat.le_of_ble_eq_true rfl) hMσ1 hkσ1 hwσ1 ?_
  refine mj_if_eq (tgt := 17) dX7_livingAt_5 (by decide) ⟨fun h => ?_, fun h => ?_⟩
  · replace K := K.1 h
    refine mj_iconst dX7_livingAt_17 ⟨by decide, by decide⟩ ?_
    exact mj_ret (v := some (mI ((0 : Int)))) ⟨dX7_livingAt_18, .int, rfl, rfl⟩ K
  · replace K := K.2 h
    refine mj_aload_n (k := 0) dX7_livingAt_8 rfl rfl ?_
    obtain ⟨fs4, hffs4, x5, hxx5, K⟩ := K
    refine mj_get dX7_livingAt_9 lf_Y7_livingAt_9 hffs4 hxx5 ?_
    refine mj_iload_n (k := 1) dX7_livingAt_12 rfl rfl ?_
    obtain ⟨n6, fn6, hfn6, h0n6, h1n6, x7, hxx7, K⟩ := K
    refine mj_iald dX7_livingAt_13 hfn6 h0n6 h1n6 ?_
    rw [hxx7]
    refine mj_goto (tgt := 18) dX7_livingAt_14 (by decide) ?_
    exact mj_ret (v := some (mI x7)) ⟨dX7_livingAt_18, .int, rfl, rfl⟩ K
theorem B_Y7_houses_0 {kb wb : Nat} {σ : mx_S} {Q : mx_R → Prop} {l0 : Nat} {l1 : Nat} (K : mx_J Y7_houses kb wb 4 [some (mR l0), some (mR l1), some (mI ((0 : Int))), some (mI ((0 : Int)))] [] σ Q) : mx_J Y7_houses kb wb 0 [some (mR l0), some (mR l1), none, none] [] σ Q := by
  refine mj_iconst dX7_houses_0 ⟨by decide, by decide⟩ ?_
  refine mj_istore_n (k := 2) (ls' := [some (mR l0), some (mR l1), some (mI ((0 : Int))), none]) dX7_houses_1 rfl (by decide) rfl ?_
  refine mj_iconst dX7_houses_2 ⟨by decide, by decide⟩ ?_
  refine mj_istore_n (k := 3) (ls' := [some (mR l0), some (mR l1), some (mI ((0 : Int))), some (mI ((0 : Int)))]) dX7_houses_3 rfl (by decide) rfl ?_
  exact K
theorem B_Y7_houses_4 {kb wb : Nat} {σ : mx_S} {Q : mx_R → Prop} {l0 : Nat} {l1 : Nat} {l2 : Int} {l3 : Int} (K : ∃ (fs : List mx_V), sH σ (l0) = some (.inl (7, fs)) ∧ ∃ x2, fs[4]? = some (mI x2) ∧ (x2 ≤ l3 → mx_J Y7_houses kb wb 28 [some (mR l0), some (mR l1), some (mI l2), some (mI ((0 : Int)))] [] σ Q) ∧ (¬ (x2 ≤ l3) → ∃ (fs : List mx_V), sH σ (l0) = some (.inl (7, fs)) ∧ ∃ (r4 : Int) (σ3 : mx_S), mx_MS Y7_livingAt [mR l0, mI l3] σ (.inl (some (mI r4), σ3)) ∧ sK σ3 ≤ kb ∧ sW σ3 ≤ wb ∧ mx_J Y7_houses kb wb 4 [some (mR l0), some (mR l1), some (mI (mx_w (l2 + r4))), some (mI (mx_w (l3 + (1 : Int))))] [] σ3 Q)) : mx_J Y7_houses kb wb 4 [some (mR l0), some (mR l1), some (mI l2), some (mI l3)] [] σ Q := by
  refine mj_iload_n (k := 3) dX7_houses_4 rfl rfl ?_
  refine mj_aload_n (k := 0) dX7_houses_5 rfl rfl ?_
  obtain ⟨fs1, hffs1, x2, hxx2, K⟩ := K
  refine mj_get dX7_houses_6 lf_Y7_houses_30 hffs1 hxx2 ?_
  refine mj_icmp_ge (tgt := 26) dX7_houses_9 (by decide) ⟨fun h => ?_, fun h => ?_⟩
  · replace K := K.1 h
    refine mj_iconst dX7_houses_26 ⟨by decide, by decide⟩ ?_
    refine mj_istore_n (k := 3) (ls' := [some (mR l0), some (mR l1), some (mI l2), some (mI ((0 : Int)))]) dX7_houses_27 rfl (by decide) rfl ?_
    exact K
  · replace K := K.2 h
    refine mj_iload_n (k := 2) dX7_houses_12 rfl rfl ?_
    refine mj_aload_n (k := 0) dX7_houses_13 rfl rfl ?_
    refine mj_iload_n (k := 3) dX7_houses_14 rfl rfl ?_
    obtain ⟨fs5, hbfs5, K⟩ := K
    obtain ⟨r4, σ3, hMσ3, hkσ3, hwσ3, K⟩ := K
    refine mj_callV (As := [mI l3]) (rest := [mI l2]) (b := l0) dX7_houses_15 k_Y7_houses_52 rfl hbfs5 rfl (Nat.le_of_ble_eq_true rfl) hMσ3 hkσ3 hwσ3 ?_
    refine mj_iadd dX7_houses_18 ?_
    refine mj_istore_n (k := 2) (ls' := [some (mR l0), some (mR l1), some (mI (mx_w (l2 + r4))), some (mI l3)]) dX7_houses_19 rfl (by decide) rfl ?_
    refine mj_iinc (k := 3) (ls' := [some (mR l0), some (mR l1), some (mI (mx_w (l2 + r4))), some (mI (mx_w (l3 + (1 : Int))))]) dX7_houses_20 rfl (by decide) rfl ?_
    refine mj_goto (tgt := 4) dX7_houses_23 (by decide) ?_
    exact K
theorem B_Y7_houses_28 {kb wb : Nat} {σ : mx_S} {Q : mx_R → Prop} {l0 : Nat} {l1 : Nat} {l2 : Int} {l3 : Int} (K : ∃ (fs : List mx_V), sH σ (l1) = some (.inl (8, fs)) ∧ ∃ (r2 : Int) (σ1 : mx_S), mx_MS Y8_many [mR l1] σ (.inl (some (mI r2), σ1)) ∧ sK σ1 ≤ kb ∧ sW σ1 ≤ wb ∧ (r2 ≤ l3 → ∃ (fs : List mx_V), sH σ1 (l1) = some (.inl (8, fs)) ∧ ∃ (r5 : Int) (σ4 : mx_S), mx_MS Y8_many [mR l1] σ1 (.inl (some (mI r5), σ4)) ∧ sK σ4 ≤ kb ∧ sW σ4 ≤ wb ∧ (¬ l2 = r5 → Q (.inl (some (mI ((0 : Int))), σ4))) ∧ (¬ (¬ l2 = r5) → Q (.inl (some (mI ((1 : Int))), σ4)))) ∧ (¬ (r2 ≤ l3) → ∃ (fs : List mx_V), sH σ1 (l1) = some (.inl (8, fs)) ∧ ∃ (r8 : Int) (σ7 : mx_S), mx_MS Y8_numberAt [mR l1, mI l3] σ1 (.inl (some (mI r8), σ7)) ∧ sK σ7 ≤ kb ∧ sW σ7 ≤ wb ∧ ∃ (fs : List mx_V), sH σ7 (l0) = some (.inl (7, fs)) ∧ ∃ (r11 : Int) (σ10 : mx_S), mx_MS Y7_homeOf [mR l0, mI r8] σ7 (.inl (some (mI r11), σ10)) ∧ sK σ10 ≤ kb ∧ sW σ10 ≤ wb ∧ ∃ (fs : List mx_V), sH σ10 (l0) = some (.inl (7, fs)) ∧ ∃ (r14 : Int) (σ13 : mx_S), mx_MS Y7_isSegment [mR l0, mI r11] σ10 (.inl (some (mI r14), σ13)) ∧ sK σ13 ≤ kb ∧ sW σ13 ≤ wb ∧ (¬ r14 = (0 : Int) → mx_J Y7_houses kb wb 28 [some (mR l0), some (mR l1), some (mI l2), some (mI (mx_w (l3 + (1 : Int))))] [] σ13 Q) ∧ (¬ (¬ r14 = (0 : Int)) → Q (.inl (some (mI ((0 : Int))), σ13))))) : mx_J Y7_houses kb wb 28 [some (mR l0), some (mR l1), some (mI l2), some (mI l3)] [] σ Q := by
  refine mj_iload_n (k := 3) dX7_houses_28 rfl rfl ?_
  refine mj_aload_n (k := 1) dX7_houses_29 rfl rfl ?_
  obtain ⟨fs3, hbfs3, K⟩ := K
  obtain ⟨r2, σ1, hMσ1, hkσ1, hwσ1, K⟩ := K
  refine mj_callV (As := []) (rest := [mI l3]) (b := l1) dX7_houses_30 k_Y7_houses_71 rfl hbfs3 rfl (Nat.le_of_ble_eq_true rfl) hMσ1 hkσ1 hwσ1 ?_
  refine mj_icmp_ge (tgt := 60) dX7_houses_33 (by decide) ⟨fun h => ?_, fun h => ?_⟩
  · replace K := K.1 h
    refine mj_iload_n (k := 2) dX7_houses_60 rfl rfl ?_
    refine mj_aload_n (k := 1) dX7_houses_61 rfl rfl ?_
    obtain ⟨fs6, hbfs6, K⟩ := K
    obtain ⟨r5, σ4, hMσ4, hkσ4, hwσ4, K⟩ := K
    refine mj_callV (As := []) (rest := [mI l2]) (b := l1) dX7_houses_62 k_Y7_houses_71 rfl hbfs6 rfl (Nat.le_of_ble_eq_true rfl) hMσ4 hkσ4 hwσ4 ?_
    refine mj_icmp_ne (tgt := 72) dX7_houses_65 (by decide) ⟨fun h => ?_, fun h => ?_⟩
    · replace K := K.1 h
      refine mj_iconst dX7_houses_72 ⟨by decide, by decide⟩ ?_
      exact mj_ret (v := some (mI ((0 : Int)))) ⟨dX7_houses_73, .boolean, rfl, by decide⟩ K
    · replace K := K.2 h
      refine mj_iconst dX7_houses_68 ⟨by decide, by decide⟩ ?_
      refine mj_goto (tgt := 73) dX7_houses_69 (by decide) ?_
      exact mj_ret (v := some (mI ((1 : Int)))) ⟨dX7_houses_73, .boolean, rfl, by decide⟩ K
  · replace K := K.2 h
    refine mj_aload_n (k := 0) dX7_houses_36 rfl rfl ?_
    refine mj_aload_n (k := 0) dX7_houses_37 rfl rfl ?_
    refine mj_aload_n (k := 1) dX7_houses_38 rfl rfl ?_
    refine mj_iload_n (k := 3) dX7_houses_39 rfl rfl ?_
    obtain ⟨fs9, hbfs9, K⟩ := K
    obtain ⟨r8, σ7, hMσ7, hkσ7, hwσ7, K⟩ := K
    refine mj_callV (As := [mI l3]) (rest := [mR l0, mR l0]) (b := l1) dX7_houses_40 k_Y7_houses_76 rfl hbfs9 rfl (Nat.le_of_ble_eq_true rfl) hMσ7 hkσ7 hwσ7 ?_
    obtain ⟨fs12, hbfs12, K⟩ := K
    obtain ⟨r11, σ10, hMσ10, hkσ10, hwσ10, K⟩ := K
    refine mj_callV (As := [mI r8]) (rest := [mR l0]) (b := l0) dX7_houses_43 k_Y7_houses_45 rfl hbfs12 rfl (Nat.le_of_ble_eq_true rfl) hMσ10 hkσ10 hwσ10 ?_
    obtain ⟨fs15, hbfs15, K⟩ := K
    obtain ⟨r14, σ13, hMσ13, hkσ13, hwσ13, K⟩ := K
    refine mj_callV (As := [mI r11]) (rest := []) (b := l0) dX7_houses_46 k_Y7_houses_37 rfl hbfs15 rfl (Nat.le_of_ble_eq_true rfl) hMσ13 hkσ13 hwσ13 ?_
    refine mj_if_ne (tgt := 54) dX7_houses_49 (by decide) ⟨fun h => ?_, fun h => ?_⟩
    · replace K := K.1 h
      refine mj_iinc (k := 3) (ls' := [some (mR l0), some (mR l1), some (mI l2), some (mI (mx_w (l3 + (1 : Int))))]) dX7_houses_54 rfl (by decide) rfl ?_
      refine mj_goto (tgt := 28) dX7_houses_57 (by decide) ?_
      exact K
    · replace K := K.2 h
      refine mj_iconst dX7_houses_52 ⟨by decide, by decide⟩ ?_
      exact mj_ret (v := some (mI ((0 : Int)))) ⟨dX7_houses_53, .boolean, rfl, by decide⟩ K
theorem B_Y2_isWhole_0 {kb wb : Nat} {σ : mx_S} {Q : mx_R → Prop} {l0 : Nat} (K : mx_J Y2_isWhole kb wb 2 [some (mR l0), some (mI ((0 : Int))), none] [] σ Q) : mx_J Y2_isWhole kb wb 0 [some (mR l0), none, none] [] σ Q := by
  refine mj_iconst dX2_isWhole_0 ⟨by decide, by decide⟩ ?_
  refine mj_istore_n (k := 1) (ls' := [some (mR l0), some (mI ((0 : Int))), none]) dX2_isWhole_1 rfl (by decide) rfl ?_
  exact K
theorem B_Y2_isWhole_2 {kb wb : Nat} {σ : mx_S} {Q : mx_R → Prop} {l0 : Nat} {l1 : Int} (K : ∃ (fs : List mx_V), sH σ (l0) = some (.inl (2, fs)) ∧ ∃ x2, fs[2]? = some (mR x2) ∧ ∃ (kd n3 : Nat) (f : Nat → mx_V), sH σ (x2) = some (.inr (kd, n3, f)) ∧ ((n3 : Int) ≤ l1 → ∃ (fs : List mx_V), sH σ (l0) = some (.inl (2, fs)) ∧ ∃ x5, fs[0]? = some (mR x5) ∧ ∃ (fs : List mx_V), sH σ (x5) = some (.inl (9, fs)) ∧ ∃ (r7 : Int) (σ6 : mx_S), mx_MS Y9_isInOrder [mR x5] σ (.inl (some (mI r7), σ6)) ∧ sK σ6 ≤ kb ∧ sW σ6 ≤ wb ∧ (r7 = (0 : Int) → Q (.inl (some (mI ((0 : Int))), σ6))) ∧ (¬ (r7 = (0 : Int)) → ∃ (fs : List mx_V), sH σ6 (l0) = some (.inl (2, fs)) ∧ ∃ x10, fs[3]? = some (mR x10) ∧ ∃ (fs : List mx_V), sH σ6 (l0) = some (.inl (2, fs)) ∧ ∃ x12, fs[0]? = some (mR x12) ∧ ∃ (fs : List mx_V), sH σ6 (x12) = some (.inl (9, fs)) ∧ ∃ (r14 : Nat) (σ13 : mx_S), mx_MS Y9_texts [mR x12] σ6 (.inl (some (mR r14), σ13)) ∧ sK σ13 ≤ kb ∧ sW σ13 ≤ wb ∧ ∃ (fs : List mx_V), sH σ13 (x10) = some (.inl (7, fs)) ∧ ∃ (r17 : Int) (σ16 : mx_S), mx_MS Y7_houses [mR x10, mR r14] σ13 (.inl (some (mI r17), σ16)) ∧ sK σ16 ≤ kb ∧ sW σ16 ≤ wb ∧ (r17 = (0 : Int) → Q (.inl (some (mI ((0 : Int))), σ16))) ∧ (¬ (r17 = (0 : Int)) → Q (.inl (some (mI ((1 : Int))), σ16))))) ∧ (¬ ((n3 : Int) ≤ l1) → ∃ (fs : List mx_V), sH σ (l0) = some (.inl (2, fs)) ∧ ∃ (r20 : Option Nat) (σ19 : mx_S), mx_MS Y2_shelf [mR l0, mI l1] σ (.inl (some (Sum.inr (Sum.inl r20)), σ19)) ∧ sK σ19 ≤ kb ∧ sW σ19 ≤ wb ∧ ∃ (fs : List mx_V), sH σ19 (l0) = some (.inl (2, fs)) ∧ ∃ x23, fs[2]? = some (mR x23) ∧ ∃ (n24 : Nat) (f : Nat → mx_V), sH σ19 (x23) = some (.inr (0, n24, f)) ∧ 0 ≤ l1 ∧ l1 < (n24 : Int) ∧ ∃ x25, f (l1).toNat = mI x25 ∧ (x25 = (-1 : Int) → mx_J Y2_isWhole kb wb 40 [some (mR l0), some (mI l1), some (Sum.inr (Sum.inl r20))] [] σ19 Q) ∧ (¬ (x25 = (-1 : Int)) → (r20 = none → mx_J Y2_isWhole kb wb 40 [some (mR l0), some (mI l1), some (mN)] [] σ19 Q) ∧ (∀ a26 : Nat, r20 = some a26 → ∃ (fs : List mx_V), sH σ19 (a26) = some (.inl (9, fs)) ∧ ∃ (r28 : Int) (σ27 : mx_S), mx_MS Y9_isInOrder [mR a26] σ19 (.inl (some (mI r28), σ27)) ∧ sK σ27 ≤ kb ∧ sW σ27 ≤ wb ∧ (¬ r28 = (0 : Int) → mx_J Y2_isWhole kb wb 40 [some (mR l0), some (mI l1), some (mR a26)] [] σ27 Q) ∧ (¬ (¬ r28 = (0 : Int)) → Q (.inl (some (mI ((0 : Int))), σ27))))))) : mx_J Y2_isWhole kb wb 2 [some (mR l0), some (mI l1), none] [] σ Q := by
  refine mj_iload_n (k := 1) dX2_isWhole_2 rfl rfl ?_
  refine mj_aload_n (k := 0) dX2_isWhole_3 rfl rfl ?_
  obtain ⟨fs1, hffs1, x2, hxx2, K⟩ := K
  refine mj_get dX2_isWhole_4 lf_Y2_isWhole_22 hffs1 hxx2 ?_
  obtain ⟨kd, n3, fn3, hfn3, K⟩ := K
  refine mj_alen dX2_isWhole_7 hfn3 ?_
  refine mj_icmp_ge (tgt := 46) dX2_isWhole_8 (by decide) ⟨fun h => ?_, fun h => ?_⟩
  · replace K := K.1 h
    refine mj_aload_n (k := 0) dX2_isWhole_46 rfl rfl ?_
    obtain ⟨fs4, hffs4, x5, hxx5, K⟩ := K
    refine mj_get dX2_isWhole_47 lf_Y2_isWhole_12 hffs4 hxx5 ?_
    obtain ⟨fs8, hbfs8, K⟩ := K
    obtain ⟨r7, σ6, hMσ6, hkσ6, hwσ6, K⟩ := K
    refine mj_callV (As := []) (rest := []) (b := x5) dX2_isWhole_50 k_Y2_isWhole_118 rfl hbfs8 rfl (Nat.le_of_ble_eq_true rfl) hMσ6 hkσ6 hwσ6 ?_
    refine mj_if_eq (tgt := 77) dX2_isWhole_53 (by decide) ⟨fun h => ?_, fun h => ?_⟩
    · replace K := K.1 h
      refine mj_iconst dX2_isWhole_77 ⟨by decide, by decide⟩ ?_
      exact mj_ret (v := some (mI ((0 : Int)))) ⟨dX2_isWhole_78, .boolean, rfl, by decide⟩ K
    · replace K := K.2 h
      refine mj_aload_n (k := 0) dX2_isWhole_56 rfl rfl ?_
      obtain ⟨fs9, hffs9, x10, hxx10, K⟩ := K
      refine mj_get dX2_isWhole_57 lf_Y2_isWhole_29 hffs9 hxx10 ?_
      refine mj_aload_n (k := 0) dX2_isWhole_60 rfl rfl ?_
      obtain ⟨fs11, hffs11, x12, hxx12, K⟩ := K
      refine mj_get dX2_isWhole_61 lf_Y2_isWhole_12 hffs11 hxx12 ?_
      obtain ⟨fs15, hbfs15, K⟩ := K
      obtain ⟨r14, σ13, hMσ13, hkσ13, hwσ13, K⟩ := K
      refine mj_callV (As := []) (rest := [mR x10]) (b := x12) dX2_isWhole_64 k_Y2_isWhole_54 rfl hbfs15 rfl (Nat.le_of_ble_eq_true rfl) hMσ13 hkσ13 hwσ13 ?_
      obtain ⟨fs18, hbfs18, K⟩ := K
      obtain ⟨r17, σ16, hMσ16, hkσ16, hwσ16, K⟩ := K
      refine mj_callV (As := [mR r14]) (rest := []) (b := x10) dX2_isWhole_67 k_Y2_isWhole_122 rfl hbfs18 rfl (Nat.le_of_ble_eq_true rfl) hMσ16 hkσ16 hwσ16 ?_
      refine mj_if_eq (tgt := 77) dX2_isWhole_70 (by decide) ⟨fun h => ?_, fun h => ?_⟩
      · replace K := K.1 h
        refine mj_iconst dX2_isWhole_77 ⟨by decide, by decide⟩ ?_
        exact mj_ret (v := some (mI ((0 : Int)))) ⟨dX2_isWhole_78, .boolean, rfl, by decide⟩ K
      · replace K := K.2 h
        refine mj_iconst dX2_isWhole_73 ⟨by decide, by decide⟩ ?_
        refine mj_goto (tgt := 78) dX2_isWhole_74 (by decide) ?_
        exact mj_ret (v := some (mI ((1 : Int)))) ⟨dX2_isWhole_78, .boolean, rfl, by decide⟩ K
  · replace K := K.2 h
    refine mj_aload_n (k := 0) dX2_isWhole_11 rfl rfl ?_
    refine mj_iload_n (k := 1) dX2_isWhole_12 rfl rfl ?_
    obtain ⟨fs21, hbfs21, K⟩ := K
    obtain ⟨r20, σ19, hMσ19, hkσ19, hwσ19, K⟩ := K
    refine mj_callV (As := [mI l1]) (rest := []) (b := l0) dX2_isWhole_13 k_Y2_isWhole_50 rfl hbfs21 rfl (Nat.le_of_ble_eq_true rfl) hMσ19 hkσ19 hwσ19 ?_
    refine mj_astoreO_n (k := 2) (ls' := [some (mR l0), some (mI l1), some (Sum.inr (Sum.inl r20))]) dX2_isWhole_16 rfl (by decide) rfl ?_
    refine mj_aload_n (k := 0) dX2_isWhole_17 rfl rfl ?_
    obtain ⟨fs22, hffs22, x23, hxx23, K⟩ := K
    refine mj_get dX2_isWhole_18 lf_Y2_isWhole_22 hffs22 hxx23 ?_
    refine mj_iload_n (k := 1) dX2_isWhole_21 rfl rfl ?_
    obtain ⟨n24, fn24, hfn24, h0n24, h1n24, x25, hxx25, K⟩ := K
    refine mj_iald dX2_isWhole_22 hfn24 h0n24 h1n24 ?_
    rw [hxx25]
    refine mj_iconst dX2_isWhole_23 ⟨by decide, by decide⟩ ?_
    refine mj_icmp_eq (tgt := 40) dX2_isWhole_24 (by decide) ⟨fun h => ?_, fun h => ?_⟩
    · replace K := K.1 h
      exact K
    · replace K := K.2 h
      refine mj_aloadO_n (k := 2) dX2_isWhole_27 rfl rfl ?_
      refine mj_ifnull (tgt := 40) dX2_isWhole_28 (by decide) ⟨fun h => ?_, fun h => ?_⟩
      · replace K := K.1 h
        subst h
        exact K
      · obtain ⟨a26, h⟩ := Option.ne_none_iff_exists'.mp h
        replace K := K.2 a26 h
        subst h
        refine mj_aload_n (k := 2) dX2_isWhole_31 rfl rfl ?_
        obtain ⟨fs29, hbfs29, K⟩ := K
        obtain ⟨r28, σ27, hMσ27, hkσ27, hwσ27, K⟩ := K
        refine mj_callV (As := []) (rest := []) (b := a26) dX2_isWhole_32 k_Y2_isWhole_118 rfl hbfs29 rfl (Nat.le_of_ble_eq_true rfl) hMσ27 hkσ27 hwσ27 ?_
        refine mj_if_ne (tgt := 40) dX2_isWhole_35 (by decide) ⟨fun h => ?_, fun h => ?_⟩
        · replace K := K.1 h
          exact K
        · replace K := K.2 h
          refine mj_iconst dX2_isWhole_38 ⟨by decide, by decide⟩ ?_
          exact mj_ret (v := some (mI ((0 : Int)))) ⟨dX2_isWhole_39, .boolean, rfl, by decide⟩ K
theorem B_Y2_isWhole_40 {kb wb : Nat} {σ : mx_S} {Q : mx_R → Prop} {l0 : Nat} {l1 : Int} {l2 : Option Nat} (K : mx_J Y2_isWhole kb wb 2 [some (mR l0), some (mI (mx_w (l1 + (1 : Int)))), none] [] σ Q) : mx_J Y2_isWhole kb wb 40 [some (mR l0), some (mI l1), some (Sum.inr (Sum.inl l2))] [] σ Q := by
  refine mj_iinc (k := 1) (ls' := [some (mR l0), some (mI (mx_w (l1 + (1 : Int)))), some (Sum.inr (Sum.inl l2))]) dX2_isWhole_40 rfl (by decide) rfl ?_
  refine mj_goto (tgt := 2) dX2_isWhole_43 (by decide) ?_
  exact mj_forget (ls' := [some (mR l0), some (mI (mx_w (l1 + (1 : Int)))), none]) ⟨rfl, ⟨rfl, trivial⟩⟩ K
theorem B_Y3_init_0 {kb wb : Nat} {σ : mx_S} {Q : mx_R → Prop} {l0 : Nat} (K : 0 ≤ (40 : Int) ∧ (40 : Int) ≤ 134217728 ∧ sK σ + 1 ≤ kb ∧ sW σ + ((40 : Int)).toNat ≤ wb ∧ ∀ σ1 a2, σ1 = mx_al σ (.inr (0, ((40 : Int)).toNat, fun _ => mI 0)) ((40 : Int)).toNat → a2 = sN σ → ∃ (fs : List mx_V), sH σ1 (l0) = some (.inl (3, fs)) ∧ 0 < fs.length ∧ sB σ1 ≤ l0 ∧ ∀ σ4, σ4 = mx_wr σ1 (l0) (.inl (3, fs.set 0 (mR a2))) → Q (.inl (none, σ4))) : mx_J Y3_init kb wb 0 [some (mR l0)] [] σ Q := by
  refine mj_aload_n (k := 0) dX3_init_0 rfl rfl ?_
  refine mj_objInit (rest := []) dX3_init_1 w_248 w_47 w_objcode (by decide) (Nat.le_of_ble_eq_true rfl) ?_
  refine mj_aload_n (k := 0) dX3_init_4 rfl rfl ?_
  refine mj_bipush (n := 40) dX3_init_5 ⟨by decide, by decide⟩ (by decide) ?_
  obtain ⟨h0a2, h1a2, hka2, hwa2, K⟩ := K
  replace K := K _ _ rfl rfl
  refine mj_newa (kd := 0) dX3_init_7 (by decide) w_94 h0a2 h1a2 hka2 hwa2 ?_
  generalize mx_al σ (.inr (0, ((40 : Int)).toNat, fun _ => mI 0)) ((40 : Int)).toNat = σ1 at K ⊢
  generalize sN σ = a2 at K ⊢
  obtain ⟨fs3, hffs3, hlfs3, hbfs3, K⟩ := K
  replace K := K _ rfl
  refine mj_put dX3_init_9 pf_Y3_init_9 hffs3 hlfs3 hbfs3 ⟨rfl, rfl⟩ ?_
  generalize mx_wr σ1 (l0) (.inl (3, fs3.set 0 (mR a2))) = σ4 at K ⊢
  exact mj_ret (v := none) ⟨dX3_init_12, rfl⟩ K
theorem B_Y4_init_0 {kb wb : Nat} {σ : mx_S} {Q : mx_R → Prop} {l0 : Nat} (K : 0 ≤ (40 : Int) ∧ (40 : Int) ≤ 134217728 ∧ sK σ + 1 ≤ kb ∧ sW σ + ((40 : Int)).toNat ≤ wb ∧ ∀ σ1 a2, σ1 = mx_al σ (.inr (0, ((40 : Int)).toNat, fun _ => mI 0)) ((40 : Int)).toNat → a2 = sN σ → ∃ (fs : List mx_V), sH σ1 (l0) = some (.inl (4, fs)) ∧ 0 < fs.length ∧ sB σ1 ≤ l0 ∧ ∀ σ4, σ4 = mx_wr σ1 (l0) (.inl (4, fs.set 0 (mR a2))) → 0 ≤ (40 : Int) ∧ (40 : Int) ≤ 134217728 ∧ sK σ4 + 1 ≤ kb ∧ sW σ4 + ((40 : Int)).toNat ≤ wb ∧ ∀ σ5 a6, σ5 = mx_al σ4 (.inr (0, ((40 : Int)).toNat, fun _ => mI 0)) ((40 : Int)).toNat → a6 = sN σ4 → ∃ (fs : List mx_V), sH σ5 (l0) = some (.inl (4, fs)) ∧ 1 < fs.length ∧ sB σ5 ≤ l0 ∧ ∀ σ8, σ8 = mx_wr σ5 (l0) (.inl (4, fs.set 1 (mR a6))) → 0 ≤ (40 : Int) ∧ (40 : Int) ≤ 134217728 ∧ sK σ8 + 1 ≤ kb ∧ sW σ8 + ((40 : Int)).toNat ≤ wb ∧ ∀ σ9 a10, σ9 = mx_al σ8 (.inr (0, ((40 : Int)).toNat, fun _ => mI 0)) ((40 : Int)).toNat → a10 = sN σ8 → ∃ (fs : List mx_V), sH σ9 (l0) = some (.inl (4, fs)) ∧ 2 < fs.length ∧ sB σ9 ≤ l0 ∧ ∀ σ12, σ12 = mx_wr σ9 (l0) (.inl (4, fs.set 2 (mR a10))) → Q (.inl (none, σ12))) : mx_J Y4_init kb wb 0 [some (mR l0)] [] σ Q := by
  refine mj_aload_n (k := 0) dX4_init_0 rfl rfl ?_
  refine mj_objInit (rest := []) dX4_init_1 w_226 w_47 w_objcode (by decide) (Nat.le_of_ble_eq_true rfl) ?_
  refine mj_aload_n (k := 0) dX4_init_4 rfl rfl ?_
  refine mj_bipush (n := 40) dX4_init_5 ⟨by decide, by decide⟩ (by decide) ?_
  obtain ⟨h0a2, h1a2, hka2, hwa2, K⟩ := K
  replace K := K _ _ rfl rfl
  refine mj_newa (kd := 0) dX4_init_7 (by decide) w_94 h0a2 h1a2 hka2 hwa2 ?_
  generalize mx_al σ (.inr (0, ((40 : Int)).toNat, fun _ => mI 0)) ((40 : Int)).toNat = σ1 at K ⊢
  generalize sN σ = a2 at K ⊢
  obtain ⟨fs3, hffs3, hlfs3, hbfs3, K⟩ := K
  replace K := K _ rfl
  refine mj_put dX4_init_9 pf_Y4_init_9 hffs3 hlfs3 hbfs3 ⟨rfl, rfl⟩ ?_
  generalize mx_wr σ1 (l0) (.inl (4, fs3.set 0 (mR a2))) = σ4 at K ⊢
  refine mj_aload_n (k := 0) dX4_init_12 rfl rfl ?_
  refine mj_bipush (n := 40) dX4_init_13 ⟨by decide, by decide⟩ (by decide) ?_
  obtain ⟨h0a6, h1a6, hka6, hwa6, K⟩ := K
  replace K := K _ _ rfl rfl
  refine mj_newa (kd := 0) dX4_init_15 (by decide) w_94 h0a6 h1a6 hka6 hwa6 ?_
  generalize mx_al σ4 (.inr (0, ((40 : Int)).toNat, fun _ => mI 0)) ((40 : Int)).toNat = σ5 at K ⊢
  generalize sN σ4 = a6 at K ⊢
  obtain ⟨fs7, hffs7, hlfs7, hbfs7, K⟩ := K
  replace K := K _ rfl
  refine mj_put dX4_init_17 pf_Y4_init_15 hffs7 hlfs7 hbfs7 ⟨rfl, rfl⟩ ?_
  generalize mx_wr σ5 (l0) (.inl (4, fs7.set 1 (mR a6))) = σ8 at K ⊢
  refine mj_aload_n (k := 0) dX4_init_20 rfl rfl ?_
  refine mj_bipush (n := 40) dX4_init_21 ⟨by decide, by decide⟩ (by decide) ?_
  obtain ⟨h0a10, h1a10, hka10, hwa10, K⟩ := K
  replace K := K _ _ rfl rfl
  refine mj_newa (kd := 0) dX4_init_23 (by decide) w_94 h0a10 h1a10 hka10 hwa10 ?_
  generalize mx_al σ8 (.inr (0, ((40 : Int)).toNat, fun _ => mI 0)) ((40 : Int)).toNat = σ9 at K ⊢
  generalize sN σ8 = a10 at K ⊢
  obtain ⟨fs11, hffs11, hlfs11, hbfs11, K⟩ := K
  replace K := K _ rfl
  refine mj_put dX4_init_25 pf_Y4_init_18 hffs11 hlfs11 hbfs11 ⟨rfl, rfl⟩ ?_
  generalize mx_wr σ9 (l0) (.inl (4, fs11.set 2 (mR a10))) = σ12 at K ⊢
  exact mj_ret (v := none) ⟨dX4_init_28, rfl⟩ K
theorem B_Y5_init_0 {kb wb : Nat} {σ : mx_S} {Q : mx_R → Prop} {l0 : Nat} (K : 0 ≤ (20 : Int) ∧ (20 : Int) ≤ 134217728 ∧ sK σ + 1 ≤ kb ∧ sW σ + ((20 : Int)).toNat ≤ wb ∧ ∀ σ1 a2, σ1 = mx_al σ (.inr (0, ((20 : Int)).toNat, fun _ => mI 0)) ((20 : Int)).toNat → a2 = sN σ → ∃ (fs : List mx_V), sH σ1 (l0) = some (.inl (5, fs)) ∧ 0 < fs.length ∧ sB σ1 ≤ l0 ∧ ∀ σ4, σ4 = mx_wr σ1 (l0) (.inl (5, fs.set 0 (mR a2))) → 0 ≤ (5 : Int) ∧ (5 : Int) ≤ 134217728 ∧ sK σ4 + 1 ≤ kb ∧ sW σ4 + ((5 : Int)).toNat ≤ wb ∧ ∀ σ5 a6, σ5 = mx_al σ4 (.inr (0, ((5 : Int)).toNat, fun _ => mI 0)) ((5 : Int)).toNat → a6 = sN σ4 → ∃ (fs : List mx_V), sH σ5 (l0) = some (.inl (5, fs)) ∧ 1 < fs.length ∧ sB σ5 ≤ l0 ∧ ∀ σ8, σ8 = mx_wr σ5 (l0) (.inl (5, fs.set 1 (mR a6))) → Q (.inl (none, σ8))) : mx_J Y5_init kb wb 0 [some (mR l0)] [] σ Q := by
  refine mj_aload_n (k := 0) dX5_init_0 rfl rfl ?_
  refine mj_objInit (rest := []) dX5_init_1 w_183 w_47 w_objcode (by decide) (Nat.le_of_ble_eq_true rfl) ?_
  refine mj_aload_n (k := 0) dX5_init_4 rfl rfl ?_
  refine mj_bipush (n := 20) dX5_init_5 ⟨by decide, by decide⟩ (by decide) ?_
  obtain ⟨h0a2, h1a2, hka2, hwa2, K⟩ := K
  replace K := K _ _ rfl rfl
  refine mj_newa (kd := 0) dX5_init_7 (by decide) w_94 h0a2 h1a2 hka2 hwa2 ?_
  generalize mx_al σ (.inr (0, ((20 : Int)).toNat, fun _ => mI 0)) ((20 : Int)).toNat = σ1 at K ⊢
  generalize sN σ = a2 at K ⊢
  obtain ⟨fs3, hffs3, hlfs3, hbfs3, K⟩ := K
  replace K := K _ rfl
  refine mj_put dX5_init_9 pf_Y5_init_9 hffs3 hlfs3 hbfs3 ⟨rfl, rfl⟩ ?_
  generalize mx_wr σ1 (l0) (.inl (5, fs3.set 0 (mR a2))) = σ4 at K ⊢
  refine mj_aload_n (k := 0) dX5_init_12 rfl rfl ?_
  refine mj_iconst dX5_init_13 ⟨by decide, by decide⟩ ?_
  obtain ⟨h0a6, h1a6, hka6, hwa6, K⟩ := K
  replace K := K _ _ rfl rfl
  refine mj_newa (kd := 0) dX5_init_14 (by decide) w_94 h0a6 h1a6 hka6 hwa6 ?_
  generalize mx_al σ4 (.inr (0, ((5 : Int)).toNat, fun _ => mI 0)) ((5 : Int)).toNat = σ5 at K ⊢
  generalize sN σ4 = a6 at K ⊢
  obtain ⟨fs7, hffs7, hlfs7, hbfs7, K⟩ := K
  replace K := K _ rfl
  refine mj_put dX5_init_16 pf_Y5_init_15 hffs7 hlfs7 hbfs7 ⟨rfl, rfl⟩ ?_
  generalize mx_wr σ5 (l0) (.inl (5, fs7.set 1 (mR a6))) = σ8 at K ⊢
  exact mj_ret (v := none) ⟨dX5_init_19, rfl⟩ K
theorem B_Y6_append_0 {kb wb : Nat} {σ : mx_S} {Q : mx_R → Prop} {l0 : Nat} {l1 : Int} (K : ∃ (fs : List mx_V), sH σ (l0) = some (.inl (6, fs)) ∧ ∃ x2, fs[1]? = some (mI x2) ∧ (x2 < (0 : Int) → Q (.inl (none, σ))) ∧ (¬ (x2 < (0 : Int)) → ∃ (fs : List mx_V), sH σ (l0) = some (.inl (6, fs)) ∧ ∃ x4, fs[1]? = some (mI x4) ∧ ∃ (fs : List mx_V), sH σ (l0) = some (.inl (6, fs)) ∧ ∃ x6, fs[0]? = some (mR x6) ∧ ∃ (kd n7 : Nat) (f : Nat → mx_V), sH σ (x6) = some (.inr (kd, n7, f)) ∧ ((n7 : Int) ≤ x4 → Q (.inl (none, σ))) ∧ (¬ ((n7 : Int) ≤ x4) → ∃ (fs : List mx_V), sH σ (l0) = some (.inl (6, fs)) ∧ ∃ x9, fs[0]? = some (mR x9) ∧ ∃ (fs : List mx_V), sH σ (l0) = some (.inl (6, fs)) ∧ ∃ x11, fs[1]? = some (mI x11) ∧ ∃ (n12 : Nat) (f : Nat → mx_V), sH σ (x9) = some (.inr (1, n12, f)) ∧ sB σ ≤ x9 ∧ 0 ≤ x11 ∧ x11 < (n12 : Int) ∧ 0 ≤ l1 ∧ l1 ≤ 65535 ∧ ∀ σ13, σ13 = mx_wr σ (x9) (.inr (1, n12, upV f (x11).toNat (mI l1))) → ∃ (fs : List mx_V), sH σ13 (l0) = some (.inl (6, fs)) ∧ ∃ x15, fs[1]? = some (mI x15) ∧ ∃ (fs : List mx_V), sH σ13 (l0) = some (.inl (6, fs)) ∧ 1 < fs.length ∧ sB σ13 ≤ l0 ∧ ∀ σ17, σ17 = mx_wr σ13 (l0) (.inl (6, fs.set 1 (mI (mx_w (x15 + (1 : Int)))))) → Q (.inl (none, σ17))))) : mx_J Y6_append kb wb 0 [some (mR l0), some (mI l1)] [] σ Q := by
  refine mj_aload_n (k := 0) dX6_append_0 rfl rfl ?_
  obtain ⟨fs1, hffs1, x2, hxx2, K⟩ := K
  refine mj_get dX6_append_1 lf_Y6_append_15 hffs1 hxx2 ?_
  refine mj_if_lt (tgt := 39) dX6_append_4 (by decide) ⟨fun h => ?_, fun h => ?_⟩
  · replace K := K.1 h
    exact mj_ret (v := none) ⟨dX6_append_39, rfl⟩ K
  · replace K := K.2 h
    refine mj_aload_n (k := 0) dX6_append_7 rfl rfl ?_
    obtain ⟨fs3, hffs3, x4, hxx4, K⟩ := K
    refine mj_get dX6_append_8 lf_Y6_append_15 hffs3 hxx4 ?_
    refine mj_aload_n (k := 0) dX6_append_11 rfl rfl ?_
    obtain ⟨fs5, hffs5, x6, hxx6, K⟩ := K
    refine mj_get dX6_append_12 lf_Y6_append_9 hffs5 hxx6 ?_
    obtain ⟨kd, n7, fn7, hfn7, K⟩ := K
    refine mj_alen dX6_append_15 hfn7 ?_
    refine mj_icmp_ge (tgt := 39) dX6_append_16 (by decide) ⟨fun h => ?_, fun h => ?_⟩
    · replace K := K.1 h
      exact mj_ret (v := none) ⟨dX6_append_39, rfl⟩ K
    · replace K := K.2 h
      refine mj_aload_n (k := 0) dX6_append_19 rfl rfl ?_
      obtain ⟨fs8, hffs8, x9, hxx9, K⟩ := K
      refine mj_get dX6_append_20 lf_Y6_append_9 hffs8 hxx9 ?_
      refine mj_aload_n (k := 0) dX6_append_23 rfl rfl ?_
      obtain ⟨fs10, hffs10, x11, hxx11, K⟩ := K
      refine mj_get dX6_append_24 lf_Y6_append_15 hffs10 hxx11 ?_
      refine mj_iload_n (k := 1) dX6_append_27 rfl rfl ?_
      obtain ⟨n12, fn12, hfn12, hbn12, h0n12, h1n12, c0n12, c1n12, K⟩ := K
      replace K := K _ rfl
      refine mj_cast dX6_append_28 hfn12 hbn12 h0n12 h1n12 (mx_nch c0n12 c1n12) ?_
      generalize mx_wr σ (x9) (.inr (1, n12, upV fn12 (x11).toNat (mI l1))) = σ13 at K ⊢
      refine mj_aload_n (k := 0) dX6_append_29 rfl rfl ?_
      refine mj_dup dX6_append_30 rfl ?_
      obtain ⟨fs14, hffs14, x15, hxx15, K⟩ := K
      refine mj_get dX6_append_31 lf_Y6_append_15 hffs14 hxx15 ?_
      refine mj_iconst dX6_append_34 ⟨by decide, by decide⟩ ?_
      refine mj_iadd dX6_append_35 ?_
      obtain ⟨fs16, hffs16, hlfs16, hbfs16, K⟩ := K
      replace K := K _ rfl
      refine mj_put dX6_append_36 pf_Y6_append_15 hffs16 hlfs16 hbfs16 ⟨rfl, rfl⟩ ?_
      generalize mx_wr σ13 (l0) (.inl (6, fs16.set 1 (mI (mx_w (x15 + (1 : Int)))))) = σ17 at K ⊢
      exact mj_ret (v := none) ⟨dX6_append_39, rfl⟩ K
theorem B_Y6_empty_0 {kb wb : Nat} {σ : mx_S} {Q : mx_R → Prop} {l0 : Nat} (K : ∃ (fs : List mx_V), sH σ (l0) = some (.inl (6, fs)) ∧ 1 < fs.length ∧ sB σ ≤ l0 ∧ ∀ σ2, σ2 = mx_wr σ (l0) (.inl (6, fs.set 1 (mI ((0 : Int))))) → Q (.inl (none, σ2))) : mx_J Y6_empty kb wb 0 [some (mR l0)] [] σ Q := by
  refine mj_aload_n (k := 0) dX6_empty_0 rfl rfl ?_
  refine mj_iconst dX6_empty_1 ⟨by decide, by decide⟩ ?_
  obtain ⟨fs1, hffs1, hlfs1, hbfs1, K⟩ := K
  replace K := K _ rfl
  refine mj_put dX6_empty_2 pf_Y6_empty_15 hffs1 hlfs1 hbfs1 ⟨rfl, rfl⟩ ?_
  generalize mx_wr σ (l0) (.inl (6, fs1.set 1 (mI ((0 : Int))))) = σ2 at K ⊢
  exact mj_ret (v := none) ⟨dX6_empty_5, rfl⟩ K
theorem B_Y10_isLetter_0 {kb wb : Nat} {σ : mx_S} {Q : mx_R → Prop} {l0 : Int} (K : (l0 < (97 : Int) → Q (.inl (some (mI ((0 : Int))), σ))) ∧ (¬ (l0 < (97 : Int)) → ((101 : Int) < l0 → Q (.inl (some (mI ((0 : Int))), σ))) ∧ (¬ ((101 : Int) < l0) → Q (.inl (some (mI ((1 : Int))), σ))))) : mx_J Y10_isLetter kb wb 0 [some (mI l0)] [] σ Q := by
  refine mj_iload_n (k := 0) dX10_isLetter_0 rfl rfl ?_
  refine mj_bipush (n := 97) dX10_isLetter_1 ⟨by decide, by decide⟩ (by decide) ?_
  refine mj_icmp_lt (tgt := 16) dX10_isLetter_3 (by decide) ⟨fun h => ?_, fun h => ?_⟩
  · replace K := K.1 h
    refine mj_iconst dX10_isLetter_16 ⟨by decide, by decide⟩ ?_
    exact mj_ret (v := some (mI ((0 : Int)))) ⟨dX10_isLetter_17, .boolean, rfl, by decide⟩ K
  · replace K := K.2 h
    refine mj_iload_n (k := 0) dX10_isLetter_6 rfl rfl ?_
    refine mj_bipush (n := 101) dX10_isLetter_7 ⟨by decide, by decide⟩ (by decide) ?_
    refine mj_icmp_gt (tgt := 16) dX10_isLetter_9 (by decide) ⟨fun h => ?_, fun h => ?_⟩
    · replace K := K.1 h
      refine mj_iconst dX10_isLetter_16 ⟨by decide, by decide⟩ ?_
      exact mj_ret (v := some (mI ((0 : Int)))) ⟨dX10_isLetter_17, .boolean, rfl, by decide⟩ K
    · replace K := K.2 h
      refine mj_iconst dX10_isLetter_12 ⟨by decide, by decide⟩ ?_
      refine mj_goto (tgt := 17) dX10_isLetter_13 (by decide) ?_
      exact mj_ret (v := some (mI ((1 : Int)))) ⟨dX10_isLetter_17, .boolean, rfl, by decide⟩ K
theorem B_Y6_isPlain_0 {kb wb : Nat} {σ : mx_S} {Q : mx_R → Prop} {l0 : Nat} (K : mx_J Y6_isPlain kb wb 2 [some (mR l0), some (mI ((0 : Int)))] [] σ Q) : mx_J Y6_isPlain kb wb 0 [some (mR l0), none] [] σ Q := by
  refine mj_iconst dX6_isPlain_0 ⟨by decide, by decide⟩ ?_
  refine mj_istore_n (k := 1) (ls' := [some (mR l0), some (mI ((0 : Int)))]) dX6_isPlain_1 rfl (by decide) rfl ?_
  exact K
theorem B_Y6_isPlain_2 {kb wb : Nat} {σ : mx_S} {Q : mx_R → Prop} {l0 : Nat} {l1 : Int} (K : ∃ (fs : List mx_V), sH σ (l0) = some (.inl (6, fs)) ∧ ∃ x2, fs[1]? = some (mI x2) ∧ (x2 ≤ l1 → ∃ (fs : List mx_V), sH σ (l0) = some (.inl (6, fs)) ∧ ∃ x4, fs[1]? = some (mI x4) ∧ (x4 ≤ (0 : Int) → Q (.inl (some (mI ((0 : Int))), σ))) ∧ (¬ (x4 ≤ (0 : Int)) → Q (.inl (some (mI ((1 : Int))), σ)))) ∧ (¬ (x2 ≤ l1) → ∃ (fs : List mx_V), sH σ (l0) = some (.inl (6, fs)) ∧ ∃ (r6 : Int) (σ5 : mx_S), mx_MS Y6_sign [mR l0, mI l1] σ (.inl (some (mI r6), σ5)) ∧ sK σ5 ≤ kb ∧ sW σ5 ≤ wb ∧ ∃ (r9 : Int) (σ8 : mx_S), mx_MS Y10_isLetter [mI r6] σ5 (.inl (some (mI r9), σ8)) ∧ sK σ8 ≤ kb ∧ sW σ8 ≤ wb ∧ (¬ r9 = (0 : Int) → mx_J Y6_isPlain kb wb 2 [some (mR l0), some (mI (mx_w (l1 + (1 : Int))))] [] σ8 Q) ∧ (¬ (¬ r9 = (0 : Int)) → Q (.inl (some (mI ((0 : Int))), σ8))))) : mx_J Y6_isPlain kb wb 2 [some (mR l0), some (mI l1)] [] σ Q := by
  refine mj_iload_n (k := 1) dX6_isPlain_2 rfl rfl ?_
  refine mj_aload_n (k := 0) dX6_isPlain_3 rfl rfl ?_
  obtain ⟨fs1, hffs1, x2, hxx2, K⟩ := K
  refine mj_get dX6_isPlain_4 lf_Y6_isPlain_15 hffs1 hxx2 ?_
  refine mj_icmp_ge (tgt := 29) dX6_isPlain_7 (by decide) ⟨fun h => ?_, fun h => ?_⟩
  · replace K := K.1 h
    refine mj_aload_n (k := 0) dX6_isPlain_29 rfl rfl ?_
    obtain ⟨fs3, hffs3, x4, hxx4, K⟩ := K
    refine mj_get dX6_isPlain_30 lf_Y6_isPlain_15 hffs3 hxx4 ?_
    refine mj_if_le (tgt := 40) dX6_isPlain_33 (by decide) ⟨fun h => ?_, fun h => ?_⟩
    · replace K := K.1 h
      refine mj_iconst dX6_isPlain_40 ⟨by decide, by decide⟩ ?_
      exact mj_ret (v := some (mI ((0 : Int)))) ⟨dX6_isPlain_41, .boolean, rfl, by decide⟩ K
    · replace K := K.2 h
      refine mj_iconst dX6_isPlain_36 ⟨by decide, by decide⟩ ?_
      refine mj_goto (tgt := 41) dX6_isPlain_37 (by decide) ?_
      exact mj_ret (v := some (mI ((1 : Int)))) ⟨dX6_isPlain_41, .boolean, rfl, by decide⟩ K
  · replace K := K.2 h
    refine mj_aload_n (k := 0) dX6_isPlain_10 rfl rfl ?_
    refine mj_iload_n (k := 1) dX6_isPlain_11 rfl rfl ?_
    obtain ⟨fs7, hbfs7, K⟩ := K
    obtain ⟨r6, σ5, hMσ5, hkσ5, hwσ5, K⟩ := K
    refine mj_callV (As := [mI l1]) (rest := []) (b := l0) dX6_isPlain_12 k_Y6_isPlain_25 rfl hbfs7 rfl (Nat.le_of_ble_eq_true rfl) hMσ5 hkσ5 hwσ5 ?_
    obtain ⟨r9, σ8, hMσ8, hkσ8, hwσ8, K⟩ := K
    refine mj_callSN (As := [mI r6]) (rest := []) dX6_isPlain_15 k_Y6_isPlain_33 rfl (Nat.le_of_ble_eq_true rfl) hMσ8 hkσ8 hwσ8 ?_
    refine mj_if_ne (tgt := 23) dX6_isPlain_18 (by decide) ⟨fun h => ?_, fun h => ?_⟩
    · replace K := K.1 h
      refine mj_iinc (k := 1) (ls' := [some (mR l0), some (mI (mx_w (l1 + (1 : Int))))]) dX6_isPlain_23 rfl (by decide) rfl ?_
      refine mj_goto (tgt := 2) dX6_isPlain_26 (by decide) ?_
      exact K
    · replace K := K.2 h
      refine mj_iconst dX6_isPlain_21 ⟨by decide, by decide⟩ ?_
      exact mj_ret (v := some (mI ((0 : Int)))) ⟨dX6_isPlain_22, .boolean, rfl, by decide⟩ K
theorem B_Y6_isSimple_0 {kb wb : Nat} {σ : mx_S} {Q : mx_R → Prop} {l0 : Nat} (K : mx_J Y6_isSimple kb wb 4 [some (mR l0), some (mI ((0 : Int))), some (mI ((0 : Int))), none, none] [] σ Q) : mx_J Y6_isSimple kb wb 0 [some (mR l0), none, none, none, none] [] σ Q := by
  refine mj_iconst dX6_isSimple_0 ⟨by decide, by decide⟩ ?_
  refine mj_istore_n (k := 1) (ls' := [some (mR l0), some (mI ((0 : Int))), none, none, none]) dX6_isSimple_1 rfl (by decide) rfl ?_
  refine mj_iconst dX6_isSimple_2 ⟨by decide, by decide⟩ ?_
  refine mj_istore_n (k := 2) (ls' := [some (mR l0), some (mI ((0 : Int))), some (mI ((0 : Int))), none, none]) dX6_isSimple_3 rfl (by decide) rfl ?_
  exact K
theorem B_Y6_isSimple_4 {kb wb : Nat} {σ : mx_S} {Q : mx_R → Prop} {l0 : Nat} {l1 : Int} {l2 : Int} (K : ∃ (fs : List mx_V), sH σ (l0) = some (.inl (6, fs)) ∧ ∃ x2, fs[1]? = some (mI x2) ∧ (x2 ≤ l2 → 0 ≤ l1 ∧ l1 ≤ 1 ∧ Q (.inl (some (mI l1), σ))) ∧ (¬ (x2 ≤ l2) → ∃ (fs : List mx_V), sH σ (l0) = some (.inl (6, fs)) ∧ ∃ (r4 : Int) (σ3 : mx_S), mx_MS Y6_sign [mR l0, mI l2] σ (.inl (some (mI r4), σ3)) ∧ sK σ3 ≤ kb ∧ sW σ3 ≤ wb ∧ ∃ (r7 : Int) (σ6 : mx_S), mx_MS Y10_isLetter [mI r4] σ3 (.inl (some (mI r7), σ6)) ∧ sK σ6 ≤ kb ∧ sW σ6 ≤ wb ∧ (¬ r7 = (0 : Int) → mx_J Y6_isSimple kb wb 31 [some (mR l0), some (mI l1), some (mI l2), some (mI r4), none] [] σ6 Q) ∧ (¬ (¬ r7 = (0 : Int)) → (¬ r4 = (46 : Int) → mx_J Y6_isSimple kb wb 36 [some (mR l0), some (mI l1), some (mI l2), some (mI r4), none] [mI ((0 : Int))] σ6 Q) ∧ (¬ (¬ r4 = (46 : Int)) → mx_J Y6_isSimple kb wb 31 [some (mR l0), some (mI l1), some (mI l2), some (mI r4), none] [] σ6 Q)))) : mx_J Y6_isSimple kb wb 4 [some (mR l0), some (mI l1), some (mI l2), none, none] [] σ Q := by
  refine mj_iload_n (k := 2) dX6_isSimple_4 rfl rfl ?_
  refine mj_aload_n (k := 0) dX6_isSimple_5 rfl rfl ?_
  obtain ⟨fs1, hffs1, x2, hxx2, K⟩ := K
  refine mj_get dX6_isSimple_6 lf_Y6_isSimple_15 hffs1 hxx2 ?_
  refine mj_icmp_ge (tgt := 72) dX6_isSimple_9 (by decide) ⟨fun h => ?_, fun h => ?_⟩
  · replace K := K.1 h
    refine mj_iload_n (k := 1) dX6_isSimple_72 rfl rfl ?_
    exact mj_ret (v := some (mI l1)) ⟨dX6_isSimple_73, .boolean, rfl, mx_nbo K.1 K.2.1⟩ K.2.2
  · replace K := K.2 h
    refine mj_aload_n (k := 0) dX6_isSimple_12 rfl rfl ?_
    refine mj_iload_n (k := 2) dX6_isSimple_13 rfl rfl ?_
    obtain ⟨fs5, hbfs5, K⟩ := K
    obtain ⟨r4, σ3, hMσ3, hkσ3, hwσ3, K⟩ := K
    refine mj_callV (As := [mI l2]) (rest := []) (b := l0) dX6_isSimple_14 k_Y6_isSimple_25 rfl hbfs5 rfl (Nat.le_of_ble_eq_true rfl) hMσ3 hkσ3 hwσ3 ?_
    refine mj_istore_n (k := 3) (ls' := [some (mR l0), some (mI l1), some (mI l2), some (mI r4), none]) dX6_isSimple_17 rfl (by decide) rfl ?_
    refine mj_iload_n (k := 3) dX6_isSimple_18 rfl rfl ?_
    obtain ⟨r7, σ6, hMσ6, hkσ6, hwσ6, K⟩ := K
    refine mj_callSN (As := [mI r4]) (rest := []) dX6_isSimple_19 k_Y6_isSimple_33 rfl (Nat.le_of_ble_eq_true rfl) hMσ6 hkσ6 hwσ6 ?_
    refine mj_if_ne (tgt := 31) dX6_isSimple_22 (by decide) ⟨fun h => ?_, fun h => ?_⟩
    · replace K := K.1 h
      exact K
    · replace K := K.2 h
      refine mj_iload_n (k := 3) dX6_isSimple_25 rfl rfl ?_
      refine mj_bipush (n := 46) dX6_isSimple_26 ⟨by decide, by decide⟩ (by decide) ?_
      refine mj_icmp_ne (tgt := 35) dX6_isSimple_28 (by decide) ⟨fun h => ?_, fun h => ?_⟩
      · replace K := K.1 h
        refine mj_iconst dX6_isSimple_35 ⟨by decide, by decide⟩ ?_
        exact K
      · replace K := K.2 h
        exact K
theorem B_Y6_isSimple_31 {kb wb : Nat} {σ : mx_S} {Q : mx_R → Prop} {l0 : Nat} {l1 : Int} {l2 : Int} {l3 : Int} (K : mx_J Y6_isSimple kb wb 36 [some (mR l0), some (mI l1), some (mI l2), some (mI l3), none] [mI ((1 : Int))] σ Q) : mx_J Y6_isSimple kb wb 31 [some (mR l0), some (mI l1), some (mI l2), some (mI l3), none] [] σ Q := by
  refine mj_iconst dX6_isSimple_31 ⟨by decide, by decide⟩ ?_
  refine mj_goto (tgt := 36) dX6_isSimple_32 (by decide) ?_
  exact K
theorem B_Y6_isSimple_36 {kb wb : Nat} {σ : mx_S} {Q : mx_R → Prop} {l0 : Nat} {l1 : Int} {l2 : Int} {l3 : Int} {s0 : Int} (K : (¬ s0 = (0 : Int) → mx_J Y6_isSimple kb wb 51 [some (mR l0), some (mI l1), some (mI l2), some (mI l3), some (mI s0)] [] σ Q) ∧ (¬ (¬ s0 = (0 : Int)) → (l3 = (126 : Int) → mx_J Y6_isSimple kb wb 51 [some (mR l0), some (mI l1), some (mI l2), some (mI l3), some (mI s0)] [] σ Q) ∧ (¬ (l3 = (126 : Int)) → Q (.inl (some (mI ((0 : Int))), σ))))) : mx_J Y6_isSimple kb wb 36 [some (mR l0), some (mI l1), some (mI l2), some (mI l3), none] [mI s0] σ Q := by
  refine mj_istore (k := 4) (ls' := [some (mR l0), some (mI l1), some (mI l2), some (mI l3), some (mI s0)]) dX6_isSimple_36 (by decide) rfl ?_
  refine mj_iload (k := 4) dX6_isSimple_38 rfl ?_
  refine mj_if_ne (tgt := 51) dX6_isSimple_40 (by decide) ⟨fun h => ?_, fun h => ?_⟩
  · replace K := K.1 h
    exact K
  · replace K := K.2 h
    refine mj_iload_n (k := 3) dX6_isSimple_43 rfl rfl ?_
    refine mj_bipush (n := 126) dX6_isSimple_44 ⟨by decide, by decide⟩ (by decide) ?_
    refine mj_icmp_eq (tgt := 51) dX6_isSimple_46 (by decide) ⟨fun h => ?_, fun h => ?_⟩
    · replace K := K.1 h
      exact K
    · replace K := K.2 h
      refine mj_iconst dX6_isSimple_49 ⟨by decide, by decide⟩ ?_
      exact mj_ret (v := some (mI ((0 : Int)))) ⟨dX6_isSimple_50, .boolean, rfl, by decide⟩ K
theorem B_Y6_isSimple_51 {kb wb : Nat} {σ : mx_S} {Q : mx_R → Prop} {l0 : Nat} {l1 : Int} {l2 : Int} {l3 : Int} {l4 : Int} (K : (¬ l1 = (0 : Int) → mx_J Y6_isSimple kb wb 60 [some (mR l0), some (mI l1), some (mI l2), some (mI l3), some (mI l4)] [] σ Q) ∧ (¬ (¬ l1 = (0 : Int)) → (l4 = (0 : Int) → mx_J Y6_isSimple kb wb 65 [some (mR l0), some (mI l1), some (mI l2), some (mI l3), some (mI l4)] [mI ((0 : Int))] σ Q) ∧ (¬ (l4 = (0 : Int)) → mx_J Y6_isSimple kb wb 60 [some (mR l0), some (mI l1), some (mI l2), some (mI l3), some (mI l4)] [] σ Q))) : mx_J Y6_isSimple kb wb 51 [some (mR l0), some (mI l1), some (mI l2), some (mI l3), some (mI l4)] [] σ Q := by
  refine mj_iload_n (k := 1) dX6_isSimple_51 rfl rfl ?_
  refine mj_if_ne (tgt := 60) dX6_isSimple_52 (by decide) ⟨fun h => ?_, fun h => ?_⟩
  · replace K := K.1 h
    exact K
  · replace K := K.2 h
    refine mj_iload (k := 4) dX6_isSimple_55 rfl ?_
    refine mj_if_eq (tgt := 64) dX6_isSimple_57 (by decide) ⟨fun h => ?_, fun h => ?_⟩
    · replace K := K.1 h
      refine mj_iconst dX6_isSimple_64 ⟨by decide, by decide⟩ ?_
      exact K
    · replace K := K.2 h
      exact K
theorem B_Y6_isSimple_60 {kb wb : Nat} {σ : mx_S} {Q : mx_R → Prop} {l0 : Nat} {l1 : Int} {l2 : Int} {l3 : Int} {l4 : Int} (K : mx_J Y6_isSimple kb wb 65 [some (mR l0), some (mI l1), some (mI l2), some (mI l3), some (mI l4)] [mI ((1 : Int))] σ Q) : mx_J Y6_isSimple kb wb 60 [some (mR l0), some (mI l1), some (mI l2), some (mI l3), some (mI l4)] [] σ Q := by
  refine mj_iconst dX6_isSimple_60 ⟨by decide, by decide⟩ ?_
  refine mj_goto (tgt := 65) dX6_isSimple_61 (by decide) ?_
  exact K
theorem B_Y6_isSimple_65 {kb wb : Nat} {σ : mx_S} {Q : mx_R → Prop} {l0 : Nat} {l1 : Int} {l2 : Int} {l3 : Int} {l4 : Int} {s0 : Int} (K : mx_J Y6_isSimple kb wb 4 [some (mR l0), some (mI s0), some (mI (mx_w (l2 + (1 : Int)))), none, none] [] σ Q) : mx_J Y6_isSimple kb wb 65 [some (mR l0), some (mI l1), some (mI l2), some (mI l3), some (mI l4)] [mI s0] σ Q := by
  refine mj_istore_n (k := 1) (ls' := [some (mR l0), some (mI s0), some (mI l2), some (mI l3), some (mI l4)]) dX6_isSimple_65 rfl (by decide) rfl ?_
  refine mj_iinc (k := 2) (ls' := [some (mR l0), some (mI s0), some (mI (mx_w (l2 + (1 : Int)))), some (mI l3), some (mI l4)]) dX6_isSimple_66 rfl (by decide) rfl ?_
  refine mj_goto (tgt := 4) dX6_isSimple_69 (by decide) ?_
  exact mj_forget (ls' := [some (mR l0), some (mI s0), some (mI (mx_w (l2 + (1 : Int)))), none, none]) ⟨rfl, ⟨rfl, ⟨rfl, trivial⟩⟩⟩ K
theorem B_Y8_slotOf_0 {kb wb : Nat} {σ : mx_S} {Q : mx_R → Prop} {l0 : Nat} {l1 : Int} (K : mx_J Y8_slotOf kb wb 2 [some (mR l0), some (mI l1), some (mI ((0 : Int)))] [] σ Q) : mx_J Y8_slotOf kb wb 0 [some (mR l0), some (mI l1), none] [] σ Q := by
  refine mj_iconst dX8_slotOf_0 ⟨by decide, by decide⟩ ?_
  refine mj_istore_n (k := 2) (ls' := [some (mR l0), some (mI l1), some (mI ((0 : Int)))]) dX8_slotOf_1 rfl (by decide) rfl ?_
  exact K
theorem B_Y8_slotOf_2 {kb wb : Nat} {σ : mx_S} {Q : mx_R → Prop} {l0 : Nat} {l1 : Int} {l2 : Int} (K : ∃ (fs : List mx_V), sH σ (l0) = some (.inl (8, fs)) ∧ ∃ x2, fs[3]? = some (mI x2) ∧ (x2 ≤ l2 → Q (.inl (some (mI ((-1 : Int))), σ))) ∧ (¬ (x2 ≤ l2) → ∃ (fs : List mx_V), sH σ (l0) = some (.inl (8, fs)) ∧ ∃ (r4 : Int) (σ3 : mx_S), mx_MS Y8_numberAt [mR l0, mI l2] σ (.inl (some (mI r4), σ3)) ∧ sK σ3 ≤ kb ∧ sW σ3 ≤ wb ∧ (¬ r4 = l1 → mx_J Y8_slotOf kb wb 2 [some (mR l0), some (mI l1), some (mI (mx_w (l2 + (1 : Int))))] [] σ3 Q) ∧ (¬ (¬ r4 = l1) → Q (.inl (some (mI l2), σ3))))) : mx_J Y8_slotOf kb wb 2 [some (mR l0), some (mI l1), some (mI l2)] [] σ Q := by
  refine mj_iload_n (k := 2) dX8_slotOf_2 rfl rfl ?_
  refine mj_aload_n (k := 0) dX8_slotOf_3 rfl rfl ?_
  obtain ⟨fs1, hffs1, x2, hxx2, K⟩ := K
  refine mj_get dX8_slotOf_4 lf_Y8_slotOf_22 hffs1 hxx2 ?_
  refine mj_icmp_ge (tgt := 27) dX8_slotOf_7 (by decide) ⟨fun h => ?_, fun h => ?_⟩
  · replace K := K.1 h
    refine mj_iconst dX8_slotOf_27 ⟨by decide, by decide⟩ ?_
    exact mj_ret (v := some (mI ((-1 : Int)))) ⟨dX8_slotOf_28, .int, rfl, rfl⟩ K
  · replace K := K.2 h
    refine mj_aload_n (k := 0) dX8_slotOf_10 rfl rfl ?_
    refine mj_iload_n (k := 2) dX8_slotOf_11 rfl rfl ?_
    obtain ⟨fs5, hbfs5, K⟩ := K
    obtain ⟨r4, σ3, hMσ3, hkσ3, hwσ3, K⟩ := K
    refine mj_callV (As := [mI l2]) (rest := []) (b := l0) dX8_slotOf_12 k_Y8_slotOf_26 rfl hbfs5 rfl (Nat.le_of_ble_eq_true rfl) hMσ3 hkσ3 hwσ3 ?_
    refine mj_iload_n (k := 1) dX8_slotOf_15 rfl rfl ?_
    refine mj_icmp_ne (tgt := 21) dX8_slotOf_16 (by decide) ⟨fun h => ?_, fun h => ?_⟩
    · replace K := K.1 h
      refine mj_iinc (k := 2) (ls' := [some (mR l0), some (mI l1), some (mI (mx_w (l2 + (1 : Int))))]) dX8_slotOf_21 rfl (by decide) rfl ?_
      refine mj_goto (tgt := 2) dX8_slotOf_24 (by decide) ?_
      exact K
    · replace K := K.2 h
      refine mj_iload_n (k := 2) dX8_slotOf_19 rfl rfl ?_
      exact mj_ret (v := some (mI l2)) ⟨dX8_slotOf_20, .int, rfl, rfl⟩ K
theorem B_Y8_compareToRow_0 {kb wb : Nat} {σ : mx_S} {Q : mx_R → Prop} {l0 : Nat} {l1 : Int} {l2 : Int} {l3 : Nat} {l4 : Int} (K : mx_J Y8_compareToRow kb wb 4 [some (mR l0), some (mI l1), some (mI l2), some (mR l3), some (mI l4), some (mI l4), none] [] σ Q) : mx_J Y8_compareToRow kb wb 0 [some (mR l0), some (mI l1), some (mI l2), some (mR l3), some (mI l4), none, none] [] σ Q := by
  refine mj_iload (k := 4) dX8_compareToRow_0 rfl ?_
  refine mj_istore (k := 5) (ls' := [some (mR l0), some (mI l1), some (mI l2), some (mR l3), some (mI l4), some (mI l4), none]) dX8_compareToRow_2 (by decide) rfl ?_
  exact K
theorem B_Y8_compareToRow_4 {kb wb : Nat} {σ : mx_S} {Q : mx_R → Prop} {l0 : Nat} {l1 : Int} {l2 : Int} {l3 : Nat} {l4 : Int} {l5 : Int} (K : ∃ (fs : List mx_V), sH σ (l3) = some (.inl (6, fs)) ∧ ∃ (r2 : Int) (σ1 : mx_S), mx_MS Y6_size [mR l3] σ (.inl (some (mI r2), σ1)) ∧ sK σ1 ≤ kb ∧ sW σ1 ≤ wb ∧ (r2 ≤ l5 → Q (.inl (some (mI ((0 : Int))), σ1))) ∧ (¬ (r2 ≤ l5) → ∃ (fs : List mx_V), sH σ1 (l0) = some (.inl (8, fs)) ∧ ∃ (r5 : Int) (σ4 : mx_S), mx_MS Y8_letter [mR l0, mI l1, mI (mx_w (mx_w (l2 + l5) - l4))] σ1 (.inl (some (mI r5), σ4)) ∧ sK σ4 ≤ kb ∧ sW σ4 ≤ wb ∧ ∃ (fs : List mx_V), sH σ4 (l3) = some (.inl (6, fs)) ∧ ∃ (r8 : Int) (σ7 : mx_S), mx_MS Y6_sign [mR l3, mI l5] σ4 (.inl (some (mI r8), σ7)) ∧ sK σ7 ≤ kb ∧ sW σ7 ≤ wb ∧ (mx_w (r5 - r8) = (0 : Int) → mx_J Y8_compareToRow kb wb 4 [some (mR l0), some (mI l1), some (mI l2), some (mR l3), some (mI l4), some (mI (mx_w (l5 + (1 : Int)))), none] [] σ7 Q) ∧ (¬ (mx_w (r5 - r8) = (0 : Int)) → Q (.inl (some (mI (mx_w (r5 - r8))), σ7))))) : mx_J Y8_compareToRow kb wb 4 [some (mR l0), some (mI l1), some (mI l2), some (mR l3), some (mI l4), some (mI l5), none] [] σ Q := by
  refine mj_iload (k := 5) dX8_compareToRow_4 rfl ?_
  refine mj_aload_n (k := 3) dX8_compareToRow_6 rfl rfl ?_
  obtain ⟨fs3, hbfs3, K⟩ := K
  obtain ⟨r2, σ1, hMσ1, hkσ1, hwσ1, K⟩ := K
  refine mj_callV (As := []) (rest := [mI l5]) (b := l3) dX8_compareToRow_7 k_Y8_compareToRow_41 rfl hbfs3 rfl (Nat.le_of_ble_eq_true rfl) hMσ1 hkσ1 hwσ1 ?_
  refine mj_icmp_ge (tgt := 48) dX8_compareToRow_10 (by decide) ⟨fun h => ?_, fun h => ?_⟩
  · replace K := K.1 h
    refine mj_iconst dX8_compareToRow_48 ⟨by decide, by decide⟩ ?_
    exact mj_ret (v := some (mI ((0 : Int)))) ⟨dX8_compareToRow_49, .int, rfl, rfl⟩ K
  · replace K := K.2 h
    refine mj_aload_n (k := 0) dX8_compareToRow_13 rfl rfl ?_
    refine mj_iload_n (k := 1) dX8_compareToRow_14 rfl rfl ?_
    refine mj_iload_n (k := 2) dX8_compareToRow_15 rfl rfl ?_
    refine mj_iload (k := 5) dX8_compareToRow_16 rfl ?_
    refine mj_iadd dX8_compareToRow_18 ?_
    refine mj_iload (k := 4) dX8_compareToRow_19 rfl ?_
    refine mj_isub dX8_compareToRow_21 ?_
    obtain ⟨fs6, hbfs6, K⟩ := K
    obtain ⟨r5, σ4, hMσ4, hkσ4, hwσ4, K⟩ := K
    refine mj_callV (As := [mI l1, mI (mx_w (mx_w (l2 + l5) - l4))]) (rest := []) (b := l0) dX8_compareToRow_22 k_Y8_compareToRow_57 rfl hbfs6 rfl (Nat.le_of_ble_eq_true rfl) hMσ4 hkσ4 hwσ4 ?_
    refine mj_aload_n (k := 3) dX8_compareToRow_25 rfl rfl ?_
    refine mj_iload (k := 5) dX8_compareToRow_26 rfl ?_
    obtain ⟨fs9, hbfs9, K⟩ := K
    obtain ⟨r8, σ7, hMσ7, hkσ7, hwσ7, K⟩ := K
    refine mj_callV (As := [mI l5]) (rest := [mI r5]) (b := l3) dX8_compareToRow_28 k_Y8_compareToRow_53 rfl hbfs9 rfl (Nat.le_of_ble_eq_true rfl) hMσ7 hkσ7 hwσ7 ?_
    refine mj_isub dX8_compareToRow_31 ?_
    refine mj_istore (k := 6) (ls' := [some (mR l0), some (mI l1), some (mI l2), some (mR l3), some (mI l4), some (mI l5), some (mI (mx_w (r5 - r8)))]) dX8_compareToRow_32 (by decide) rfl ?_
    refine mj_iload (k := 6) dX8_compareToRow_34 rfl ?_
    refine mj_if_eq (tgt := 42) dX8_compareToRow_36 (by decide) ⟨fun h => ?_, fun h => ?_⟩
    · replace K := K.1 h
      refine mj_iinc (k := 5) (ls' := [some (mR l0), some (mI l1), some (mI l2), some (mR l3), some (mI l4), some (mI (mx_w (l5 + (1 : Int)))), some (mI (mx_w (r5 - r8)))]) dX8_compareToRow_42 rfl (by decide) rfl ?_
      refine mj_goto (tgt := 4) dX8_compareToRow_45 (by decide) ?_
      exact mj_forget (ls' := [some (mR l0), some (mI l1), some (mI l2), some (mR l3), some (mI l4), some (mI (mx_w (l5 + (1 : Int)))), none]) ⟨rfl, ⟨rfl, ⟨rfl, ⟨rfl, ⟨rfl, ⟨rfl, trivial⟩⟩⟩⟩⟩⟩ K
    · replace K := K.2 h
      refine mj_iload (k := 6) dX8_compareToRow_39 rfl ?_
      exact mj_ret (v := some (mI (mx_w (r5 - r8)))) ⟨dX8_compareToRow_41, .int, rfl, rfl⟩ K
theorem B_Y8_allPlaces_0 {kb wb : Nat} {σ : mx_S} {Q : mx_R → Prop} {l0 : Nat} {l1 : Int} (K : ∃ (fs : List mx_V), sH σ (l0) = some (.inl (8, fs)) ∧ ∃ (r2 : Int) (σ1 : mx_S), mx_MS Y8_sizeAt [mR l0, mI l1] σ (.inl (some (mI r2), σ1)) ∧ sK σ1 ≤ kb ∧ sW σ1 ≤ wb ∧ Q (.inl (some (mL (mx_w6 (mx_lshl ((1 : Int)) (r2) - (1 : Int)))), σ1))) : mx_J Y8_allPlaces kb wb 0 [some (mR l0), some (mI l1)] [] σ Q := by
  refine mj_lconst (n := 1) dX8_allPlaces_0 ⟨by decide, by decide⟩ (by decide) ?_
  refine mj_aload_n (k := 0) dX8_allPlaces_1 rfl rfl ?_
  refine mj_iload_n (k := 1) dX8_allPlaces_2 rfl rfl ?_
  obtain ⟨fs3, hbfs3, K⟩ := K
  obtain ⟨r2, σ1, hMσ1, hkσ1, hwσ1, K⟩ := K
  refine mj_callV (As := [mI l1]) (rest := [mL ((1 : Int))]) (b := l0) dX8_allPlaces_3 k_Y8_allPlaces_34 rfl hbfs3 rfl (Nat.le_of_ble_eq_true rfl) hMσ1 hkσ1 hwσ1 ?_
  refine mj_lshl dX8_allPlaces_6 ?_
  refine mj_lconst (n := 1) dX8_allPlaces_7 ⟨by decide, by decide⟩ (by decide) ?_
  refine mj_lsub dX8_allPlaces_8 ?_
  exact mj_ret (v := some (mL (mx_w6 (mx_lshl ((1 : Int)) (r2) - (1 : Int))))) ⟨dX8_allPlaces_9, rfl⟩ K
theorem B_Y8_placesTaking_0 {kb wb : Nat} {σ : mx_S} {Q : mx_R → Prop} {l0 : Nat} {l1 : Int} {l2 : Int} (K : (¬ l2 = (46 : Int) → mx_J Y8_placesTaking kb wb 17 [some (mR l0), some (mI l1), some (mI l2), some (mL ((0 : Int))), none, some (mI ((0 : Int)))] [] σ Q) ∧ (¬ (¬ l2 = (46 : Int)) → ∃ (fs : List mx_V), sH σ (l0) = some (.inl (8, fs)) ∧ ∃ (r2 : Int) (σ1 : mx_S), mx_MS Y8_allPlaces [mR l0, mI l1] σ (.inl (some (mL (r2)), σ1)) ∧ sK σ1 ≤ kb ∧ sW σ1 ≤ wb ∧ Q (.inl (some (mL (r2)), σ1)))) : mx_J Y8_placesTaking kb wb 0 [some (mR l0), some (mI l1), some (mI l2), none, none, none] [] σ Q := by
  refine mj_iload_n (k := 2) dX8_placesTaking_0 rfl rfl ?_
  refine mj_bipush (n := 46) dX8_placesTaking_1 ⟨by decide, by decide⟩ (by decide) ?_
  refine mj_icmp_ne (tgt := 12) dX8_placesTaking_3 (by decide) ⟨fun h => ?_, fun h => ?_⟩
  · replace K := K.1 h
    refine mj_lconst (n := 0) dX8_placesTaking_12 ⟨by decide, by decide⟩ (by decide) ?_
    refine mj_lstore_n (k := 3) (ls' := [some (mR l0), some (mI l1), some (mI l2), some (mL ((0 : Int))), none, none]) dX8_placesTaking_13 rfl (by decide) rfl ?_
    refine mj_iconst dX8_placesTaking_14 ⟨by decide, by decide⟩ ?_
    refine mj_istore (k := 5) (ls' := [some (mR l0), some (mI l1), some (mI l2), some (mL ((0 : Int))), none, some (mI ((0 : Int)))]) dX8_placesTaking_15 (by decide) rfl ?_
    exact K
  · replace K := K.2 h
    refine mj_aload_n (k := 0) dX8_placesTaking_6 rfl rfl ?_
    refine mj_iload_n (k := 1) dX8_placesTaking_7 rfl rfl ?_
    obtain ⟨fs3, hbfs3, K⟩ := K
    obtain ⟨r2, σ1, hMσ1, hkσ1, hwσ1, K⟩ := K
    refine mj_callV (As := [mI l1]) (rest := []) (b := l0) dX8_placesTaking_8 k_Y8_placesTaking_65 rfl hbfs3 rfl (Nat.le_of_ble_eq_true rfl) hMσ1 hkσ1 hwσ1 ?_
    exact mj_ret (v := some (mL (r2))) ⟨dX8_placesTaking_11, rfl⟩ K
theorem B_Y8_placesTaking_17 {kb wb : Nat} {σ : mx_S} {Q : mx_R → Prop} {l0 : Nat} {l1 : Int} {l2 : Int} {l3 : Int} {l5 : Int} (K : ∃ (fs : List mx_V), sH σ (l0) = some (.inl (8, fs)) ∧ ∃ (r2 : Int) (σ1 : mx_S), mx_MS Y8_sizeAt [mR l0, mI l1] σ (.inl (some (mI r2), σ1)) ∧ sK σ1 ≤ kb ∧ sW σ1 ≤ wb ∧ (r2 ≤ l5 → Q (.inl (some (mL (l3)), σ1))) ∧ (¬ (r2 ≤ l5) → ∃ (fs : List mx_V), sH σ1 (l0) = some (.inl (8, fs)) ∧ ∃ (r5 : Int) (σ4 : mx_S), mx_MS Y8_letter [mR l0, mI l1, mI l5] σ1 (.inl (some (mI r5), σ4)) ∧ sK σ4 ≤ kb ∧ sW σ4 ≤ wb ∧ (¬ r5 = l2 → mx_J Y8_placesTaking kb wb 45 [some (mR l0), some (mI l1), some (mI l2), some (mL (l3)), none, some (mI l5)] [] σ4 Q) ∧ (¬ (¬ r5 = l2) → mx_J Y8_placesTaking kb wb 45 [some (mR l0), some (mI l1), some (mI l2), some (mL (mx_lor (l3) (mx_lshl ((1 : Int)) (l5)))), none, some (mI l5)] [] σ4 Q))) : mx_J Y8_placesTaking kb wb 17 [some (mR l0), some (mI l1), some (mI l2), some (mL (l3)), none, some (mI l5)] [] σ Q := by
  refine mj_iload (k := 5) dX8_placesTaking_17 rfl ?_
  refine mj_aload_n (k := 0) dX8_placesTaking_19 rfl rfl ?_
  refine mj_iload_n (k := 1) dX8_placesTaking_20 rfl rfl ?_
  obtain ⟨fs3, hbfs3, K⟩ := K
  obtain ⟨r2, σ1, hMσ1, hkσ1, hwσ1, K⟩ := K
  refine mj_callV (As := [mI l1]) (rest := [mI l5]) (b := l0) dX8_placesTaking_21 k_Y8_placesTaking_34 rfl hbfs3 rfl (Nat.le_of_ble_eq_true rfl) hMσ1 hkσ1 hwσ1 ?_
  refine mj_icmp_ge (tgt := 51) dX8_placesTaking_24 (by decide) ⟨fun h => ?_, fun h => ?_⟩
  · replace K := K.1 h
    refine mj_lload_n (k := 3) dX8_placesTaking_51 rfl rfl ?_
    exact mj_ret (v := some (mL (l3))) ⟨dX8_placesTaking_52, rfl⟩ K
  · replace K := K.2 h
    refine mj_aload_n (k := 0) dX8_placesTaking_27 rfl rfl ?_
    refine mj_iload_n (k := 1) dX8_placesTaking_28 rfl rfl ?_
    refine mj_iload (k := 5) dX8_placesTaking_29 rfl ?_
    obtain ⟨fs6, hbfs6, K⟩ := K
    obtain ⟨r5, σ4, hMσ4, hkσ4, hwσ4, K⟩ := K
    refine mj_callV (As := [mI l1, mI l5]) (rest := []) (b := l0) dX8_placesTaking_31 k_Y8_placesTaking_57 rfl hbfs6 rfl (Nat.le_of_ble_eq_true rfl) hMσ4 hkσ4 hwσ4 ?_
    refine mj_iload_n (k := 2) dX8_placesTaking_34 rfl rfl ?_
    refine mj_icmp_ne (tgt := 45) dX8_placesTaking_35 (by decide) ⟨fun h => ?_, fun h => ?_⟩
    · replace K := K.1 h
      exact K
    · replace K := K.2 h
      refine mj_lload_n (k := 3) dX8_placesTaking_38 rfl rfl ?_
      refine mj_lconst (n := 1) dX8_placesTaking_39 ⟨by decide, by decide⟩ (by decide) ?_
      refine mj_iload (k := 5) dX8_placesTaking_40 rfl ?_
      refine mj_lshl dX8_placesTaking_42 ?_
      refine mj_lor dX8_placesTaking_43 ?_
      refine mj_lstore_n (k := 3) (ls' := [some (mR l0), some (mI l1), some (mI l2), some (mL (mx_lor (l3) (mx_lshl ((1 : Int)) (l5)))), none, some (mI l5)]) dX8_placesTaking_44 rfl (by decide) rfl ?_
      exact K
theorem B_Y8_placesTaking_45 {kb wb : Nat} {σ : mx_S} {Q : mx_R → Prop} {l0 : Nat} {l1 : Int} {l2 : Int} {l3 : Int} {l5 : Int} (K : mx_J Y8_placesTaking kb wb 17 [some (mR l0), some (mI l1), some (mI l2), some (mL (l3)), none, some (mI (mx_w (l5 + (1 : Int))))] [] σ Q) : mx_J Y8_placesTaking kb wb 45 [some (mR l0), some (mI l1), some (mI l2), some (mL (l3)), none, some (mI l5)] [] σ Q := by
  refine mj_iinc (k := 5) (ls' := [some (mR l0), some (mI l1), some (mI l2), some (mL (l3)), none, some (mI (mx_w (l5 + (1 : Int))))]) dX8_placesTaking_45 rfl (by decide) rfl ?_
  refine mj_goto (tgt := 17) dX8_placesTaking_48 (by decide) ?_
  exact K
theorem B_Y8_placesOf_0 {kb wb : Nat} {σ : mx_S} {Q : mx_R → Prop} {l0 : Nat} {l1 : Int} {l2 : Nat} (K : ∃ (fs : List mx_V), sH σ (l0) = some (.inl (8, fs)) ∧ ∃ (r2 : Int) (σ1 : mx_S), mx_MS Y8_allPlaces [mR l0, mI l1] σ (.inl (some (mL (r2)), σ1)) ∧ sK σ1 ≤ kb ∧ sW σ1 ≤ wb ∧ ∃ (fs : List mx_V), sH σ1 (l2) = some (.inl (6, fs)) ∧ ∃ (r5 : Int) (σ4 : mx_S), mx_MS Y6_size [mR l2] σ1 (.inl (some (mI r5), σ4)) ∧ sK σ4 ≤ kb ∧ sW σ4 ≤ wb ∧ mx_J Y8_placesOf kb wb 18 [some (mR l0), some (mI l1), some (mR l2), some (mL (mx_w6 (mx_lshl (r2) ((1 : Int)) + (1 : Int)))), none, some (mI (mx_w (r5 - (1 : Int)))), none] [] σ4 Q) : mx_J Y8_placesOf kb wb 0 [some (mR l0), some (mI l1), some (mR l2), none, none, none, none] [] σ Q := by
  refine mj_aload_n (k := 0) dX8_placesOf_0 rfl rfl ?_
  refine mj_iload_n (k := 1) dX8_placesOf_1 rfl rfl ?_
  obtain ⟨fs3, hbfs3, K⟩ := K
  obtain ⟨r2, σ1, hMσ1, hkσ1, hwσ1, K⟩ := K
  refine mj_callV (As := [mI l1]) (rest := []) (b := l0) dX8_placesOf_2 k_Y8_placesOf_65 rfl hbfs3 rfl (Nat.le_of_ble_eq_true rfl) hMσ1 hkσ1 hwσ1 ?_
  refine mj_iconst dX8_placesOf_5 ⟨by decide, by decide⟩ ?_
  refine mj_lshl dX8_placesOf_6 ?_
  refine mj_lconst (n := 1) dX8_placesOf_7 ⟨by decide, by decide⟩ (by decide) ?_
  refine mj_ladd dX8_placesOf_8 ?_
  refine mj_lstore_n (k := 3) (ls' := [some (mR l0), some (mI l1), some (mR l2), some (mL (mx_w6 (mx_lshl (r2) ((1 : Int)) + (1 : Int)))), none, none, none]) dX8_placesOf_9 rfl (by decide) rfl ?_
  refine mj_aload_n (k := 2) dX8_placesOf_10 rfl rfl ?_
  obtain ⟨fs6, hbfs6, K⟩ := K
  obtain ⟨r5, σ4, hMσ4, hkσ4, hwσ4, K⟩ := K
  refine mj_callV (As := []) (rest := []) (b := l2) dX8_placesOf_11 k_Y8_placesOf_41 rfl hbfs6 rfl (Nat.le_of_ble_eq_true rfl) hMσ4 hkσ4 hwσ4 ?_
  refine mj_iconst dX8_placesOf_14 ⟨by decide, by decide⟩ ?_
  refine mj_isub dX8_placesOf_15 ?_
  refine mj_istore (k := 5) (ls' := [some (mR l0), some (mI l1), some (mR l2), some (mL (mx_w6 (mx_lshl (r2) ((1 : Int)) + (1 : Int)))), none, some (mI (mx_w (r5 - (1 : Int)))), none]) dX8_placesOf_16 (by decide) rfl ?_
  exact K
theorem B_Y8_placesOf_18 {kb wb : Nat} {σ : mx_S} {Q : mx_R → Prop} {l0 : Nat} {l1 : Int} {l2 : Nat} {l3 : Int} {l5 : Int} (K : (l5 < (0 : Int) → ∃ (fs : List mx_V), sH σ (l0) = some (.inl (8, fs)) ∧ ∃ (r2 : Int) (σ1 : mx_S), mx_MS Y8_allPlaces [mR l0, mI l1] σ (.inl (some (mL (r2)), σ1)) ∧ sK σ1 ≤ kb ∧ sW σ1 ≤ wb ∧ Q (.inl (some (mL (mx_land (l3) (r2))), σ1))) ∧ (¬ (l5 < (0 : Int)) → ∃ (fs : List mx_V), sH σ (l2) = some (.inl (6, fs)) ∧ ∃ (r5 : Int) (σ4 : mx_S), mx_MS Y6_sign [mR l2, mI l5] σ (.inl (some (mI r5), σ4)) ∧ sK σ4 ≤ kb ∧ sW σ4 ≤ wb ∧ (¬ r5 = (126 : Int) → ∃ (fs : List mx_V), sH σ4 (l0) = some (.inl (8, fs)) ∧ ∃ (r8 : Int) (σ7 : mx_S), mx_MS Y8_placesTaking [mR l0, mI l1, mI r5] σ4 (.inl (some (mL (r8)), σ7)) ∧ sK σ7 ≤ kb ∧ sW σ7 ≤ wb ∧ mx_J Y8_placesOf kb wb 63 [some (mR l0), some (mI l1), some (mR l2), some (mL (mx_land (mx_lushr (l3) ((1 : Int))) (r8))), none, some (mI l5), some (mI r5)] [] σ7 Q) ∧ (¬ (¬ r5 = (126 : Int)) → mx_J Y8_placesOf kb wb 63 [some (mR l0), some (mI l1), some (mR l2), some (mL (mx_lor (mx_lor (l3) (mx_lushr (l3) ((1 : Int)))) (mx_lushr (l3) ((2 : Int))))), none, some (mI l5), some (mI r5)] [] σ4 Q))) : mx_J Y8_placesOf kb wb 18 [some (mR l0), some (mI l1), some (mR l2), some (mL (l3)), none, some (mI l5), none] [] σ Q := by
  refine mj_iload (k := 5) dX8_placesOf_18 rfl ?_
  refine mj_if_lt (tgt := 69) dX8_placesOf_20 (by decide) ⟨fun h => ?_, fun h => ?_⟩
  · replace K := K.1 h
    refine mj_lload_n (k := 3) dX8_placesOf_69 rfl rfl ?_
    refine mj_aload_n (k := 0) dX8_placesOf_70 rfl rfl ?_
    refine mj_iload_n (k := 1) dX8_placesOf_71 rfl rfl ?_
    obtain ⟨fs3, hbfs3, K⟩ := K
    obtain ⟨r2, σ1, hMσ1, hkσ1, hwσ1, K⟩ := K
    refine mj_callV (As := [mI l1]) (rest := [mL (l3)]) (b := l0) dX8_placesOf_72 k_Y8_placesOf_65 rfl hbfs3 rfl (Nat.le_of_ble_eq_true rfl) hMσ1 hkσ1 hwσ1 ?_
    refine mj_land dX8_placesOf_75 ?_
    exact mj_ret (v := some (mL (mx_land (l3) (r2)))) ⟨dX8_placesOf_76, rfl⟩ K
  · replace K := K.2 h
    refine mj_aload_n (k := 2) dX8_placesOf_23 rfl rfl ?_
    refine mj_iload (k := 5) dX8_placesOf_24 rfl ?_
    obtain ⟨fs6, hbfs6, K⟩ := K
    obtain ⟨r5, σ4, hMσ4, hkσ4, hwσ4, K⟩ := K
    refine mj_callV (As := [mI l5]) (rest := []) (b := l2) dX8_placesOf_26 k_Y8_placesOf_53 rfl hbfs6 rfl (Nat.le_of_ble_eq_true rfl) hMσ4 hkσ4 hwσ4 ?_
    refine mj_istore (k := 6) (ls' := [some (mR l0), some (mI l1), some (mR l2), some (mL (l3)), none, some (mI l5), some (mI r5)]) dX8_placesOf_29 (by decide) rfl ?_
    refine mj_iload (k := 6) dX8_placesOf_31 rfl ?_
    refine mj_bipush (n := 126) dX8_placesOf_33 ⟨by decide, by decide⟩ (by decide) ?_
    refine mj_icmp_ne (tgt := 51) dX8_placesOf_35 (by decide) ⟨fun h => ?_, fun h => ?_⟩
    · replace K := K.1 h
      refine mj_lload_n (k := 3) dX8_placesOf_51 rfl rfl ?_
      refine mj_iconst dX8_placesOf_52 ⟨by decide, by decide⟩ ?_
      refine mj_lushr dX8_placesOf_53 ?_
      refine mj_aload_n (k := 0) dX8_placesOf_54 rfl rfl ?_
      refine mj_iload_n (k := 1) dX8_placesOf_55 rfl rfl ?_
      refine mj_iload (k := 6) dX8_placesOf_56 rfl ?_
      obtain ⟨fs9, hbfs9, K⟩ := K
      obtain ⟨r8, σ7, hMσ7, hkσ7, hwσ7, K⟩ := K
      refine mj_callV (As := [mI l1, mI r5]) (rest := [mL (mx_lushr (l3) ((1 : Int)))]) (b := l0) dX8_placesOf_58 k_Y8_placesOf_69 rfl hbfs9 rfl (Nat.le_of_ble_eq_true rfl) hMσ7 hkσ7 hwσ7 ?_
      refine mj_land dX8_placesOf_61 ?_
      refine mj_lstore_n (k := 3) (ls' := [some (mR l0), some (mI l1), some (mR l2), some (mL (mx_land (mx_lushr (l3) ((1 : Int))) (r8))), none, some (mI l5), some (mI r5)]) dX8_placesOf_62 rfl (by decide) rfl ?_
      exact K
    · replace K := K.2 h
      refine mj_lload_n (k := 3) dX8_placesOf_38 rfl rfl ?_
      refine mj_lload_n (k := 3) dX8_placesOf_39 rfl rfl ?_
      refine mj_iconst dX8_placesOf_40 ⟨by decide, by decide⟩ ?_
      refine mj_lushr dX8_placesOf_41 ?_
      refine mj_lor dX8_placesOf_42 ?_
      refine mj_lload_n (k := 3) dX8_placesOf_43 rfl rfl ?_
      refine mj_iconst dX8_placesOf_44 ⟨by decide, by decide⟩ ?_
      refine mj_lushr dX8_placesOf_45 ?_
      refine mj_lor dX8_placesOf_46 ?_
      refine mj_lstore_n (k := 3) (ls' := [some (mR l0), some (mI l1), some (mR l2), some (mL (mx_lor (mx_lor (l3) (mx_lushr (l3) ((1 : Int)))) (mx_lushr (l3) ((2 : Int))))), none, some (mI l5), some (mI r5)]) dX8_placesOf_47 rfl (by decide) rfl ?_
      refine mj_goto (tgt := 63) dX8_placesOf_48 (by decide) ?_
      exact K
theorem B_Y8_placesOf_63 {kb wb : Nat} {σ : mx_S} {Q : mx_R → Prop} {l0 : Nat} {l1 : Int} {l2 : Nat} {l3 : Int} {l5 : Int} {l6 : Int} (K : mx_J Y8_placesOf kb wb 18 [some (mR l0), some (mI l1), some (mR l2), some (mL (l3)), none, some (mI (mx_w (l5 + (-1 : Int)))), none] [] σ Q) : mx_J Y8_placesOf kb wb 63 [some (mR l0), some (mI l1), some (mR l2), some (mL (l3)), none, some (mI l5), some (mI l6)] [] σ Q := by
  refine mj_iinc (k := 5) (ls' := [some (mR l0), some (mI l1), some (mR l2), some (mL (l3)), none, some (mI (mx_w (l5 + (-1 : Int)))), some (mI l6)]) dX8_placesOf_63 rfl (by decide) rfl ?_
  refine mj_goto (tgt := 18) dX8_placesOf_66 (by decide) ?_
  exact mj_forget (ls' := [some (mR l0), some (mI l1), some (mR l2), some (mL (l3)), none, some (mI (mx_w (l5 + (-1 : Int)))), none]) ⟨rfl, ⟨rfl, ⟨rfl, ⟨rfl, ⟨rfl, trivial⟩⟩⟩⟩⟩ K
theorem B_YJ13_bitCount_95d88_0 {kb wb : Nat} {σ : mx_S} {Q : mx_R → Prop} {l0 : Int} (K : Q (.inl (some (mI (mx_and ((Int64.ofInt (mx_w6 (mx_w6 (mx_w6 (mx_land (mx_w6 (mx_w6 (mx_land (mx_w6 (l0 - mx_land (mx_lushr (l0) ((1 : Int))) ((6148914691236517205 : Int)))) ((3689348814741910323 : Int)) + mx_land (mx_lushr (mx_w6 (l0 - mx_land (mx_lushr (l0) ((1 : Int))) ((6148914691236517205 : Int)))) ((2 : Int))) ((3689348814741910323 : Int))) + mx_lushr (mx_w6 (mx_land (mx_w6 (l0 - mx_land (mx_lushr (l0) ((1 : Int))) ((6148914691236517205 : Int)))) ((3689348814741910323 : Int)) + mx_land (mx_lushr (mx_w6 (l0 - mx_land (mx_lushr (l0) ((1 : Int))) ((6148914691236517205 : Int)))) ((2 : Int))) ((3689348814741910323 : Int)))) ((4 : Int)))) ((1085102592571150095 : Int)) + mx_lushr (mx_land (mx_w6 (mx_w6 (mx_land (mx_w6 (l0 - mx_land (mx_lushr (l0) ((1 : Int))) ((6148914691236517205 : Int)))) ((3689348814741910323 : Int)) + mx_land (mx_lushr (mx_w6 (l0 - mx_land (mx_lushr (l0) ((1 : Int))) ((6148914691236517205 : Int)))) ((2 : Int))) ((3689348814741910323 : Int))) + mx_lushr (mx_w6 (mx_land (mx_w6 (l0 - mx_land (mx_lushr (l0) ((1 : Int))) ((6148914691236517205 : Int)))) ((3689348814741910323 : Int)) + mx_land (mx_lushr (mx_w6 (l0 - mx_land (mx_lushr (l0) ((1 : Int))) ((6148914691236517205 : Int)))) ((2 : Int))) ((3689348814741910323 : Int)))) ((4 : Int)))) ((1085102592571150095 : Int))) ((8 : Int))) + mx_lushr (mx_w6 (mx_land (mx_w6 (mx_w6 (mx_land (mx_w6 (l0 - mx_land (mx_lushr (l0) ((1 : Int))) ((6148914691236517205 : Int)))) ((3689348814741910323 : Int)) + mx_land (mx_lushr (mx_w6 (l0 - mx_land (mx_lushr (l0) ((1 : Int))) ((6148914691236517205 : Int)))) ((2 : Int))) ((3689348814741910323 : Int))) + mx_lushr (mx_w6 (mx_land (mx_w6 (l0 - mx_land (mx_lushr (l0) ((1 : Int))) ((6148914691236517205 : Int)))) ((3689348814741910323 : Int)) + mx_land (mx_lushr (mx_w6 (l0 - mx_land (mx_lushr (l0) ((1 : Int))) ((6148914691236517205 : Int)))) ((2 : Int))) ((3689348814741910323 : Int)))) ((4 : Int)))) ((1085102592571150095 : Int)) + mx_lushr (mx_land (mx_w6 (mx_w6 (mx_land (mx_w6 (l0 - mx_land (mx_lushr (l0) ((1 : Int))) ((6148914691236517205 : Int)))) ((3689348814741910323 : Int)) + mx_land (mx_lushr (mx_w6 (l0 - mx_land (mx_lushr (l0) ((1 : Int))) ((6148914691236517205 : Int)))) ((2 : Int))) ((3689348814741910323 : Int))) + mx_lushr (mx_w6 (mx_land (mx_w6 (l0 - mx_land (mx_lushr (l0) ((1 : Int))) ((6148914691236517205 : Int)))) ((3689348814741910323 : Int)) + mx_land (mx_lushr (mx_w6 (l0 - mx_land (mx_lushr (l0) ((1 : Int))) ((6148914691236517205 : Int)))) ((2 : Int))) ((3689348814741910323 : Int)))) ((4 : Int)))) ((1085102592571150095 : Int))) ((8 : Int)))) ((16 : Int))) + mx_lushr (mx_w6 (mx_w6 (mx_land (mx_w6 (mx_w6 (mx_land (mx_w6 (l0 - mx_land (mx_lushr (l0) ((1 : Int))) ((6148914691236517205 : Int)))) ((3689348814741910323 : Int)) + mx_land (mx_lushr (mx_w6 (l0 - mx_land (mx_lushr (l0) ((1 : Int))) ((6148914691236517205 : Int)))) ((2 : Int))) ((3689348814741910323 : Int))) + mx_lushr (mx_w6 (mx_land (mx_w6 (l0 - mx_land (mx_lushr (l0) ((1 : Int))) ((6148914691236517205 : Int)))) ((3689348814741910323 : Int)) + mx_land (mx_lushr (mx_w6 (l0 - mx_land (mx_lushr (l0) ((1 : Int))) ((6148914691236517205 : Int)))) ((2 : Int))) ((3689348814741910323 : Int)))) ((4 : Int)))) ((1085102592571150095 : Int)) + mx_lushr (mx_land (mx_w6 (mx_w6 (mx_land (mx_w6 (l0 - mx_land (mx_lushr (l0) ((1 : Int))) ((6148914691236517205 : Int)))) ((3689348814741910323 : Int)) + mx_land (mx_lushr (mx_w6 (l0 - mx_land (mx_lushr (l0) ((1 : Int))) ((6148914691236517205 : Int)))) ((2 : Int))) ((3689348814741910323 : Int))) + mx_lushr (mx_w6 (mx_land (mx_w6 (l0 - mx_land (mx_lushr (l0) ((1 : Int))) ((6148914691236517205 : Int)))) ((3689348814741910323 : Int)) + mx_land (mx_lushr (mx_w6 (l0 - mx_land (mx_lushr (l0) ((1 : Int))) ((6148914691236517205 : Int)))) ((2 : Int))) ((3689348814741910323 : Int)))) ((4 : Int)))) ((1085102592571150095 : Int))) ((8 : Int))) + mx_lushr (mx_w6 (mx_land (mx_w6 (mx_w6 (mx_land (mx_w6 (l0 - mx_land (mx_lushr (l0) ((1 : Int))) ((6148914691236517205 : Int)))) ((3689348814741910323 : Int)) + mx_land (mx_lushr (mx_w6 (l0 - mx_land (mx_lushr (l0) ((1 : Int))) ((6148914691236517205 : Int)))) ((2 : Int))) ((3689348814741910323 : Int))) + mx_lushr (mx_w6 (mx_land (mx_w6 (l0 - mx_land (mx_lushr (l0) ((1 : Int))) ((6148914691236517205 : Int)))) ((3689348814741910323 : Int)) + mx_land (mx_lushr (mx_w6 (l0 - mx_land (mx_lushr (l0) ((1 : Int))) ((6148914691236517205 : Int)))) ((2 : Int))) ((3689348814741910323 : Int)))) ((4 : Int)))) ((1085102592571150095 : Int)) + mx_lushr (mx_land (mx_w6 (mx_w6 (mx_land (mx_w6 (l0 - mx_land (mx_lushr (l0) ((1 : Int))) ((6148914691236517205 : Int)))) ((3689348814741910323 : Int)) + mx_land (mx_lushr (mx_w6 (l0 - mx_land (mx_lushr (l0) ((1 : Int))) ((6148914691236517205 : Int)))) ((2 : Int))) ((3689348814741910323 : Int))) + mx_lushr (mx_w6 (mx_land (mx_w6 (l0 - mx_land (mx_lushr (l0) ((1 : Int))) ((6148914691236517205 : Int)))) ((3689348814741910323 : Int)) + mx_land (mx_lushr (mx_w6 (l0 - mx_land (mx_lushr (l0) ((1 : Int))) ((6148914691236517205 : Int)))) ((2 : Int))) ((3689348814741910323 : Int)))) ((4 : Int)))) ((1085102592571150095 : Int))) ((8 : Int)))) ((16 : Int)))) ((32 : Int))))).toInt32.toInt) ((127 : Int)))), σ))) : mx_J YJ13_bitCount_95d88 kb wb 0 [some (mL (l0)), none] [] σ Q := by
  refine mj_lload_n (k := 0) dJ13_bitCount_95d88_0 rfl rfl ?_
  refine mj_lload_n (k := 0) dJ13_bitCount_95d88_1 rfl rfl ?_
  refine mj_iconst dJ13_bitCount_95d88_2 ⟨by decide, by decide⟩ ?_
  refine mj_lushr dJ13_bitCount_95d88_3 ?_
  refine mj_ldc2 (n := (6148914691236517205 : Int)) dJ13_bitCount_95d88_4 ⟨by decide, by decide⟩ w_814 ?_
  refine mj_land dJ13_bitCount_95d88_7 ?_
  refine mj_lsub dJ13_bitCount_95d88_8 ?_
  refine mj_lstore_n (k := 0) (ls' := [some (mL (mx_w6 (l0 - mx_land (mx_lushr (l0) ((1 : Int))) ((6148914691236517205 : Int))))), none]) dJ13_bitCount_95d88_9 rfl (by decide) rfl ?_
  refine mj_lload_n (k := 0) dJ13_bitCount_95d88_10 rfl rfl ?_
  refine mj_ldc2 (n := (3689348814741910323 : Int)) dJ13_bitCount_95d88_11 ⟨by decide, by decide⟩ w_815 ?_
  refine mj_land dJ13_bitCount_95d88_14 ?_
  refine mj_lload_n (k := 0) dJ13_bitCount_95d88_15 rfl rfl ?_
  refine mj_iconst dJ13_bitCount_95d88_16 ⟨by decide, by decide⟩ ?_
  refine mj_lushr dJ13_bitCount_95d88_17 ?_
  refine mj_ldc2 (n := (3689348814741910323 : Int)) dJ13_bitCount_95d88_18 ⟨by decide, by decide⟩ w_815 ?_
  refine mj_land dJ13_bitCount_95d88_21 ?_
  refine mj_ladd dJ13_bitCount_95d88_22 ?_
  refine mj_lstore_n (k := 0) (ls' := [some (mL (mx_w6 (mx_land (mx_w6 (l0 - mx_land (mx_lushr (l0) ((1 : Int))) ((6148914691236517205 : Int)))) ((3689348814741910323 : Int)) + mx_land (mx_lushr (mx_w6 (l0 - mx_land (mx_lushr (l0) ((1 : Int))) ((6148914691236517205 : Int)))) ((2 : Int))) ((3689348814741910323 : Int))))), none]) dJ13_bitCount_95d88_23 rfl (by decide) rfl ?_
  refine mj_lload_n (k := 0) dJ13_bitCount_95d88_24 rfl rfl ?_
  refine mj_lload_n (k := 0) dJ13_bitCount_95d88_25 rfl rfl ?_
  refine mj_iconst dJ13_bitCount_95d88_26 ⟨by decide, by decide⟩ ?_
  refine mj_lushr dJ13_bitCount_95d88_27 ?_
  refine mj_ladd dJ13_bitCount_95d88_28 ?_
  refine mj_ldc2 (n := (1085102592571150095 : Int)) dJ13_bitCount_95d88_29 ⟨by decide, by decide⟩ w_816 ?_
  refine mj_land dJ13_bitCount_95d88_32 ?_
  refine mj_lstore_n (k := 0) (ls' := [some (mL (mx_land (mx_w6 (mx_w6 (mx_land (mx_w6 (l0 - mx_land (mx_lushr (l0) ((1 : Int))) ((6148914691236517205 : Int)))) ((3689348814741910323 : Int)) + mx_land (mx_lushr (mx_w6 (l0 - mx_land (mx_lushr (l0) ((1 : Int))) ((6148914691236517205 : Int)))) ((2 : Int))) ((3689348814741910323 : Int))) + mx_lushr (mx_w6 (mx_land (mx_w6 (l0 - mx_land (mx_lushr (l0) ((1 : Int))) ((6148914691236517205 : Int)))) ((3689348814741910323 : Int)) + mx_land (mx_lushr (mx_w6 (l0 - mx_land (mx_lushr (l0) ((1 : Int))) ((6148914691236517205 : Int)))) ((2 : Int))) ((3689348814741910323 : Int)))) ((4 : Int)))) ((1085102592571150095 : Int)))), none]) dJ13_bitCount_95d88_33 rfl (by decide) rfl ?_
  refine mj_lload_n (k := 0) dJ13_bitCount_95d88_34 rfl rfl ?_
  refine mj_lload_n (k := 0) dJ13_bitCount_95d88_35 rfl rfl ?_
  refine mj_bipush (n := 8) dJ13_bitCount_95d88_36 ⟨by decide, by decide⟩ (by decide) ?_
  refine mj_lushr dJ13_bitCount_95d88_38 ?_
  refine mj_ladd dJ13_bitCount_95d88_39 ?_
  refine mj_lstore_n (k := 0) (ls' := [some (mL (mx_w6 (mx_land (mx_w6 (mx_w6 (mx_land (mx_w6 (l0 - mx_land (mx_lushr (l0) ((1 : Int))) ((6148914691236517205 : Int)))) ((3689348814741910323 : Int)) + mx_land (mx_lushr (mx_w6 (l0 - mx_land (mx_lushr (l0) ((1 : Int))) ((6148914691236517205 : Int)))) ((2 : Int))) ((3689348814741910323 : Int))) + mx_lushr (mx_w6 (mx_land (mx_w6 (l0 - mx_land (mx_lushr (l0) ((1 : Int))) ((6148914691236517205 : Int)))) ((3689348814741910323 : Int)) + mx_land (mx_lushr (mx_w6 (l0 - mx_land (mx_lushr (l0) ((1 : Int))) ((6148914691236517205 : Int)))) ((2 : Int))) ((3689348814741910323 : Int)))) ((4 : Int)))) ((1085102592571150095 : Int)) + mx_lushr (mx_land (mx_w6 (mx_w6 (mx_land (mx_w6 (l0 - mx_land (mx_lushr (l0) ((1 : Int))) ((6148914691236517205 : Int)))) ((3689348814741910323 : Int)) + mx_land (mx_lushr (mx_w6 (l0 - mx_land (mx_lushr (l0) ((1 : Int))) ((6148914691236517205 : Int)))) ((2 : Int))) ((3689348814741910323 : Int))) + mx_lushr (mx_w6 (mx_land (mx_w6 (l0 - mx_land (mx_lushr (l0) ((1 : Int))) ((6148914691236517205 : Int)))) ((3689348814741910323 : Int)) + mx_land (mx_lushr (mx_w6 (l0 - mx_land (mx_lushr (l0) ((1 : Int))) ((6148914691236517205 : Int)))) ((2 : Int))) ((3689348814741910323 : Int)))) ((4 : Int)))) ((1085102592571150095 : Int))) ((8 : Int))))), none]) dJ13_bitCount_95d88_40 rfl (by decide) rfl ?_
  refine mj_lload_n (k := 0) dJ13_bitCount_95d88_41 rfl rfl ?_
  refine mj_lload_n (k := 0) dJ13_bitCount_95d88_42 rfl rfl ?_
  refine mj_bipush (n := 16) dJ13_bitCount_95d88_43 ⟨by decide, by decide⟩ (by decide) ?_
  refine mj_lushr dJ13_bitCount_95d88_45 ?_
  refine mj_ladd dJ13_bitCount_95d88_46 ?_
  refine mj_lstore_n (k := 0) (ls' := [some (mL (mx_w6 (mx_w6 (mx_land (mx_w6 (mx_w6 (mx_land (mx_w6 (l0 - mx_land (mx_lushr (l0) ((1 : Int))) ((6148914691236517205 : Int)))) ((3689348814741910323 : Int)) + mx_land (mx_lushr (mx_w6 (l0 - mx_land (mx_lushr (l0) ((1 : Int))) ((6148914691236517205 : Int)))) ((2 : Int))) ((3689348814741910323 : Int))) + mx_lushr (mx_w6 (mx_land (mx_w6 (l0 - mx_land (mx_lushr (l0) ((1 : Int))) ((6148914691236517205 : Int)))) ((3689348814741910323 : Int)) + mx_land (mx_lushr (mx_w6 (l0 - mx_land (mx_lushr (l0) ((1 : Int))) ((6148914691236517205 : Int)))) ((2 : Int))) ((3689348814741910323 : Int)))) ((4 : Int)))) ((1085102592571150095 : Int)) + mx_lushr (mx_land (mx_w6 (mx_w6 (mx_land (mx_w6 (l0 - mx_land (mx_lushr (l0) ((1 : Int))) ((6148914691236517205 : Int)))) ((3689348814741910323 : Int)) + mx_land (mx_lushr (mx_w6 (l0 - mx_land (mx_lushr (l0) ((1 : Int))) ((6148914691236517205 : Int)))) ((2 : Int))) ((3689348814741910323 : Int))) + mx_lushr (mx_w6 (mx_land (mx_w6 (l0 - mx_land (mx_lushr (l0) ((1 : Int))) ((6148914691236517205 : Int)))) ((3689348814741910323 : Int)) + mx_land (mx_lushr (mx_w6 (l0 - mx_land (mx_lushr (l0) ((1 : Int))) ((6148914691236517205 : Int)))) ((2 : Int))) ((3689348814741910323 : Int)))) ((4 : Int)))) ((1085102592571150095 : Int))) ((8 : Int))) + mx_lushr (mx_w6 (mx_land (mx_w6 (mx_w6 (mx_land (mx_w6 (l0 - mx_land (mx_lushr (l0) ((1 : Int))) ((6148914691236517205 : Int)))) ((3689348814741910323 : Int)) + mx_land (mx_lushr (mx_w6 (l0 - mx_land (mx_lushr (l0) ((1 : Int))) ((6148914691236517205 : Int)))) ((2 : Int))) ((3689348814741910323 : Int))) + mx_lushr (mx_w6 (mx_land (mx_w6 (l0 - mx_land (mx_lushr (l0) ((1 : Int))) ((6148914691236517205 : Int)))) ((3689348814741910323 : Int)) + mx_land (mx_lushr (mx_w6 (l0 - mx_land (mx_lushr (l0) ((1 : Int))) ((6148914691236517205 : Int)))) ((2 : Int))) ((3689348814741910323 : Int)))) ((4 : Int)))) ((1085102592571150095 : Int)) + mx_lushr (mx_land (mx_w6 (mx_w6 (mx_land (mx_w6 (l0 - mx_land (mx_lushr (l0) ((1 : Int))) ((6148914691236517205 : Int)))) ((3689348814741910323 : Int)) + mx_land (mx_lushr (mx_w6 (l0 - mx_land (mx_lushr (l0) ((1 : Int))) ((6148914691236517205 : Int)))) ((2 : Int))) ((3689348814741910323 : Int))) + mx_lushr (mx_w6 (mx_land (mx_w6 (l0 - mx_land (mx_lushr (l0) ((1 : Int))) ((6148914691236517205 : Int)))) ((3689348814741910323 : Int)) + mx_land (mx_lushr (mx_w6 (l0 - mx_land (mx_lushr (l0) ((1 : Int))) ((6148914691236517205 : Int)))) ((2 : Int))) ((3689348814741910323 : Int)))) ((4 : Int)))) ((1085102592571150095 : Int))) ((8 : Int)))) ((16 : Int))))), none]) dJ13_bitCount_95d88_47 rfl (by decide) rfl ?_
  refine mj_lload_n (k := 0) dJ13_bitCount_95d88_48 rfl rfl ?_
  refine mj_lload_n (k := 0) dJ13_bitCount_95d88_49 rfl rfl ?_
  refine mj_bipush (n := 32) dJ13_bitCount_95d88_50 ⟨by decide, by decide⟩ (by decide) ?_
  refine mj_lushr dJ13_bitCount_95d88_52 ?_
  refine mj_ladd dJ13_bitCount_95d88_53 ?_
  refine mj_lstore_n (k := 0) (ls' := [some (mL (mx_w6 (mx_w6 (mx_w6 (mx_land (mx_w6 (mx_w6 (mx_land (mx_w6 (l0 - mx_land (mx_lushr (l0) ((1 : Int))) ((6148914691236517205 : Int)))) ((3689348814741910323 : Int)) + mx_land (mx_lushr (mx_w6 (l0 - mx_land (mx_lushr (l0) ((1 : Int))) ((6148914691236517205 : Int)))) ((2 : Int))) ((3689348814741910323 : Int))) + mx_lushr (mx_w6 (mx_land (mx_w6 (l0 - mx_land (mx_lushr (l0) ((1 : Int))) ((6148914691236517205 : Int)))) ((3689348814741910323 : Int)) + mx_land (mx_lushr (mx_w6 (l0 - mx_land (mx_lushr (l0) ((1 : Int))) ((6148914691236517205 : Int)))) ((2 : Int))) ((3689348814741910323 : Int)))) ((4 : Int)))) ((1085102592571150095 : Int)) + mx_lushr (mx_land (mx_w6 (mx_w6 (mx_land (mx_w6 (l0 - mx_land (mx_lushr (l0) ((1 : Int))) ((6148914691236517205 : Int)))) ((3689348814741910323 : Int)) + mx_land (mx_lushr (mx_w6 (l0 - mx_land (mx_lushr (l0) ((1 : Int))) ((6148914691236517205 : Int)))) ((2 : Int))) ((3689348814741910323 : Int))) + mx_lushr (mx_w6 (mx_land (mx_w6 (l0 - mx_land (mx_lushr (l0) ((1 : Int))) ((6148914691236517205 : Int)))) ((3689348814741910323 : Int)) + mx_land (mx_lushr (mx_w6 (l0 - mx_land (mx_lushr (l0) ((1 : Int))) ((6148914691236517205 : Int)))) ((2 : Int))) ((3689348814741910323 : Int)))) ((4 : Int)))) ((1085102592571150095 : Int))) ((8 : Int))) + mx_lushr (mx_w6 (mx_land (mx_w6 (mx_w6 (mx_land (mx_w6 (l0 - mx_land (mx_lushr (l0) ((1 : Int))) ((6148914691236517205 : Int)))) ((3689348814741910323 : Int)) + mx_land (mx_lushr (mx_w6 (l0 - mx_land (mx_lushr (l0) ((1 : Int))) ((6148914691236517205 : Int)))) ((2 : Int))) ((3689348814741910323 : Int))) + mx_lushr (mx_w6 (mx_land (mx_w6 (l0 - mx_land (mx_lushr (l0) ((1 : Int))) ((6148914691236517205 : Int)))) ((3689348814741910323 : Int)) + mx_land (mx_lushr (mx_w6 (l0 - mx_land (mx_lushr (l0) ((1 : Int))) ((6148914691236517205 : Int)))) ((2 : Int))) ((3689348814741910323 : Int)))) ((4 : Int)))) ((1085102592571150095 : Int)) + mx_lushr (mx_land (mx_w6 (mx_w6 (mx_land (mx_w6 (l0 - mx_land (mx_lushr (l0) ((1 : Int))) ((6148914691236517205 : Int)))) ((3689348814741910323 : Int)) + mx_land (mx_lushr (mx_w6 (l0 - mx_land (mx_lushr (l0) ((1 : Int))) ((6148914691236517205 : Int)))) ((2 : Int))) ((3689348814741910323 : Int))) + mx_lushr (mx_w6 (mx_land (mx_w6 (l0 - mx_land (mx_lushr (l0) ((1 : Int))) ((6148914691236517205 : Int)))) ((3689348814741910323 : Int)) + mx_land (mx_lushr (mx_w6 (l0 - mx_land (mx_lushr (l0) ((1 : Int))) ((6148914691236517205 : Int)))) ((2 : Int))) ((3689348814741910323 : Int)))) ((4 : Int)))) ((1085102592571150095 : Int))) ((8 : Int)))) ((16 : Int))) + mx_lushr (mx_w6 (mx_w6 (mx_land (mx_w6 (mx_w6 (mx_land (mx_w6 (l0 - mx_land (mx_lushr (l0) ((1 : Int))) ((6148914691236517205 : Int)))) ((3689348814741910323 : Int)) + mx_land (mx_lushr (mx_w6 (l0 - mx_land (mx_lushr (l0) ((1 : Int))) ((6148914691236517205 : Int)))) ((2 : Int))) ((3689348814741910323 : Int))) + mx_lushr (mx_w6 (mx_land (mx_w6 (l0 - mx_land (mx_lushr (l0) ((1 : Int))) ((6148914691236517205 : Int)))) ((3689348814741910323 : Int)) + mx_land (mx_lushr (mx_w6 (l0 - mx_land (mx_lushr (l0) ((1 : Int))) ((6148914691236517205 : Int)))) ((2 : Int))) ((3689348814741910323 : Int)))) ((4 : Int)))) ((1085102592571150095 : Int)) + mx_lushr (mx_land (mx_w6 (mx_w6 (mx_land (mx_w6 (l0 - mx_land (mx_lushr (l0) ((1 : Int))) ((6148914691236517205 : Int)))) ((3689348814741910323 : Int)) + mx_land (mx_lushr (mx_w6 (l0 - mx_land (mx_lushr (l0) ((1 : Int))) ((6148914691236517205 : Int)))) ((2 : Int))) ((3689348814741910323 : Int))) + mx_lushr (mx_w6 (mx_land (mx_w6 (l0 - mx_land (mx_lushr (l0) ((1 : Int))) ((6148914691236517205 : Int)))) ((3689348814741910323 : Int)) + mx_land (mx_lushr (mx_w6 (l0 - mx_land (mx_lushr (l0) ((1 : Int))) ((6148914691236517205 : Int)))) ((2 : Int))) ((3689348814741910323 : Int)))) ((4 : Int)))) ((1085102592571150095 : Int))) ((8 : Int))) + mx_lushr (mx_w6 (mx_land (mx_w6 (mx_w6 (mx_land (mx_w6 (l0 - mx_land (mx_lushr (l0) ((1 : Int))) ((6148914691236517205 : Int)))) ((3689348814741910323 : Int)) + mx_land (mx_lushr (mx_w6 (l0 - mx_land (mx_lushr (l0) ((1 : Int))) ((6148914691236517205 : Int)))) ((2 : Int))) ((3689348814741910323 : Int))) + mx_lushr (mx_w6 (mx_land (mx_w6 (l0 - mx_land (mx_lushr (l0) ((1 : Int))) ((6148914691236517205 : Int)))) ((3689348814741910323 : Int)) + mx_land (mx_lushr (mx_w6 (l0 - mx_land (mx_lushr (l0) ((1 : Int))) ((6148914691236517205 : Int)))) ((2 : Int))) ((3689348814741910323 : Int)))) ((4 : Int)))) ((1085102592571150095 : Int)) + mx_lushr (mx_land (mx_w6 (mx_w6 (mx_land (mx_w6 (l0 - mx_land (mx_lushr (l0) ((1 : Int))) ((6148914691236517205 : Int)))) ((3689348814741910323 : Int)) + mx_land (mx_lushr (mx_w6 (l0 - mx_land (mx_lushr (l0) ((1 : Int))) ((6148914691236517205 : Int)))) ((2 : Int))) ((3689348814741910323 : Int))) + mx_lushr (mx_w6 (mx_land (mx_w6 (l0 - mx_land (mx_lushr (l0) ((1 : Int))) ((6148914691236517205 : Int)))) ((3689348814741910323 : Int)) + mx_land (mx_lushr (mx_w6 (l0 - mx_land (mx_lushr (l0) ((1 : Int))) ((6148914691236517205 : Int)))) ((2 : Int))) ((3689348814741910323 : Int)))) ((4 : Int)))) ((1085102592571150095 : Int))) ((8 : Int)))) ((16 : Int)))) ((32 : Int))))), none]) dJ13_bitCount_95d88_54 rfl (by decide) rfl ?_
  refine mj_lload_n (k := 0) dJ13_bitCount_95d88_55 rfl rfl ?_
  refine mj_l2i dJ13_bitCount_95d88_56 ?_
  refine mj_bipush (n := 127) dJ13_bitCount_95d88_57 ⟨by decide, by decide⟩ (by decide) ?_
  refine mj_iand dJ13_bitCount_95d88_59 ?_
  exact mj_ret (v := some (mI (mx_and ((Int64.ofInt (mx_w6 (mx_w6 (mx_w6 (mx_land (mx_w6 (mx_w6 (mx_land (mx_w6 (l0 - mx_land (mx_lushr (l0) ((1 : Int))) ((6148914691236517205 : Int)))) ((3689348814741910323 : Int)) + mx_land (mx_lushr (mx_w6 (l0 - mx_land (mx_lushr (l0) ((1 : Int))) ((6148914691236517205 : Int)))) ((2 : Int))) ((3689348814741910323 : Int))) + mx_lushr (mx_w6 (mx_land (mx_w6 (l0 - mx_land (mx_lushr (l0) ((1 : Int))) ((6148914691236517205 : Int)))) ((3689348814741910323 : Int)) + mx_land (mx_lushr (mx_w6 (l0 - mx_land (mx_lushr (l0) ((1 : Int))) ((6148914691236517205 : Int)))) ((2 : Int))) ((3689348814741910323 : Int)))) ((4 : Int)))) ((1085102592571150095 : Int)) + mx_lushr (mx_land (mx_w6 (mx_w6 (mx_land (mx_w6 (l0 - mx_land (mx_lushr (l0) ((1 : Int))) ((6148914691236517205 : Int)))) ((3689348814741910323 : Int)) + mx_land (mx_lushr (mx_w6 (l0 - mx_land (mx_lushr (l0) ((1 : Int))) ((6148914691236517205 : Int)))) ((2 : Int))) ((3689348814741910323 : Int))) + mx_lushr (mx_w6 (mx_land (mx_w6 (l0 - mx_land (mx_lushr (l0) ((1 : Int))) ((6148914691236517205 : Int)))) ((3689348814741910323 : Int)) + mx_land (mx_lushr (mx_w6 (l0 - mx_land (mx_lushr (l0) ((1 : Int))) ((6148914691236517205 : Int)))) ((2 : Int))) ((3689348814741910323 : Int)))) ((4 : Int)))) ((1085102592571150095 : Int))) ((8 : Int))) + mx_lushr (mx_w6 (mx_land (mx_w6 (mx_w6 (mx_land (mx_w6 (l0 - mx_land (mx_lushr (l0) ((1 : Int))) ((6148914691236517205 : Int)))) ((3689348814741910323 : Int)) + mx_land (mx_lushr (mx_w6 (l0 - mx_land (mx_lushr (l0) ((1 : Int))) ((6148914691236517205 : Int)))) ((2 : Int))) ((3689348814741910323 : Int))) + mx_lushr (mx_w6 (mx_land (mx_w6 (l0 - mx_land (mx_lushr (l0) ((1 : Int))) ((6148914691236517205 : Int)))) ((3689348814741910323 : Int)) + mx_land (mx_lushr (mx_w6 (l0 - mx_land (mx_lushr (l0) ((1 : Int))) ((6148914691236517205 : Int)))) ((2 : Int))) ((3689348814741910323 : Int)))) ((4 : Int)))) ((1085102592571150095 : Int)) + mx_lushr (mx_land (mx_w6 (mx_w6 (mx_land (mx_w6 (l0 - mx_land (mx_lushr (l0) ((1 : Int))) ((6148914691236517205 : Int)))) ((3689348814741910323 : Int)) + mx_land (mx_lushr (mx_w6 (l0 - mx_land (mx_lushr (l0) ((1 : Int))) ((6148914691236517205 : Int)))) ((2 : Int))) ((3689348814741910323 : Int))) + mx_lushr (mx_w6 (mx_land (mx_w6 (l0 - mx_land (mx_lushr (l0) ((1 : Int))) ((6148914691236517205 : Int)))) ((3689348814741910323 : Int)) + mx_land (mx_lushr (mx_w6 (l0 - mx_land (mx_lushr (l0) ((1 : Int))) ((6148914691236517205 : Int)))) ((2 : Int))) ((3689348814741910323 : Int)))) ((4 : Int)))) ((1085102592571150095 : Int))) ((8 : Int)))) ((16 : Int))) + mx_lushr (mx_w6 (mx_w6 (mx_land (mx_w6 (mx_w6 (mx_land (mx_w6 (l0 - mx_land (mx_lushr (l0) ((1 : Int))) ((6148914691236517205 : Int)))) ((3689348814741910323 : Int)) + mx_land (mx_lushr (mx_w6 (l0 - mx_land (mx_lushr (l0) ((1 : Int))) ((6148914691236517205 : Int)))) ((2 : Int))) ((3689348814741910323 : Int))) + mx_lushr (mx_w6 (mx_land (mx_w6 (l0 - mx_land (mx_lushr (l0) ((1 : Int))) ((6148914691236517205 : Int)))) ((3689348814741910323 : Int)) + mx_land (mx_lushr (mx_w6 (l0 - mx_land (mx_lushr (l0) ((1 : Int))) ((6148914691236517205 : Int)))) ((2 : Int))) ((3689348814741910323 : Int)))) ((4 : Int)))) ((1085102592571150095 : Int)) + mx_lushr (mx_land (mx_w6 (mx_w6 (mx_land (mx_w6 (l0 - mx_land (mx_lushr (l0) ((1 : Int))) ((6148914691236517205 : Int)))) ((3689348814741910323 : Int)) + mx_land (mx_lushr (mx_w6 (l0 - mx_land (mx_lushr (l0) ((1 : Int))) ((6148914691236517205 : Int)))) ((2 : Int))) ((3689348814741910323 : Int))) + mx_lushr (mx_w6 (mx_land (mx_w6 (l0 - mx_land (mx_lushr (l0) ((1 : Int))) ((6148914691236517205 : Int)))) ((3689348814741910323 : Int)) + mx_land (mx_lushr (mx_w6 (l0 - mx_land (mx_lushr (l0) ((1 : Int))) ((6148914691236517205 : Int)))) ((2 : Int))) ((3689348814741910323 : Int)))) ((4 : Int)))) ((1085102592571150095 : Int))) ((8 : Int))) + mx_lushr (mx_w6 (mx_land (mx_w6 (mx_w6 (mx_land (mx_w6 (l0 - mx_land (mx_lushr (l0) ((1 : Int))) ((6148914691236517205 : Int)))) ((3689348814741910323 : Int)) + mx_land (mx_lushr (mx_w6 (l0 - mx_land (mx_lushr (l0) ((1 : Int))) ((6148914691236517205 : Int)))) ((2 : Int))) ((3689348814741910323 : Int))) + mx_lushr (mx_w6 (mx_land (mx_w6 (l0 - mx_land (mx_lushr (l0) ((1 : Int))) ((6148914691236517205 : Int)))) ((3689348814741910323 : Int)) + mx_land (mx_lushr (mx_w6 (l0 - mx_land (mx_lushr (l0) ((1 : Int))) ((6148914691236517205 : Int)))) ((2 : Int))) ((3689348814741910323 : Int)))) ((4 : Int)))) ((1085102592571150095 : Int)) + mx_lushr (mx_land (mx_w6 (mx_w6 (mx_land (mx_w6 (l0 - mx_land (mx_lushr (l0) ((1 : Int))) ((6148914691236517205 : Int)))) ((3689348814741910323 : Int)) + mx_land (mx_lushr (mx_w6 (l0 - mx_land (mx_lushr (l0) ((1 : Int))) ((6148914691236517205 : Int)))) ((2 : Int))) ((3689348814741910323 : Int))) + mx_lushr (mx_w6 (mx_land (mx_w6 (l0 - mx_land (mx_lushr (l0) ((1 : Int))) ((6148914691236517205 : Int)))) ((3689348814741910323 : Int)) + mx_land (mx_lushr (mx_w6 (l0 - mx_land (mx_lushr (l0) ((1 : Int))) ((6148914691236517205 : Int)))) ((2 : Int))) ((3689348814741910323 : Int)))) ((4 : Int)))) ((1085102592571150095 : Int))) ((8 : Int)))) ((16 : Int)))) ((32 : Int))))).toInt32.toInt) ((127 : Int))))) ⟨dJ13_bitCount_95d88_60, .int, rfl, rfl⟩ K
theorem B_Y8_timesOf_0 {kb wb : Nat} {σ : mx_S} {Q : mx_R → Prop} {l0 : Nat} {l1 : Nat} (K : mx_J Y8_timesOf kb wb 4 [some (mR l0), some (mR l1), some (mI ((0 : Int))), some (mI ((0 : Int)))] [] σ Q) : mx_J Y8_timesOf kb wb 0 [some (mR l0), some (mR l1), none, none] [] σ Q := by
  refine mj_iconst dX8_timesOf_0 ⟨by decide, by decide⟩ ?_
  refine mj_istore_n (k := 2) (ls' := [some (mR l0), some (mR l1), some (mI ((0 : Int))), none]) dX8_timesOf_1 rfl (by decide) rfl ?_
  refine mj_iconst dX8_timesOf_2 ⟨by decide, by decide⟩ ?_
  refine mj_istore_n (k := 3) (ls' := [some (mR l0), some (mR l1), some (mI ((0 : Int))), some (mI ((0 : Int)))]) dX8_timesOf_3 rfl (by decide) rfl ?_
  exact K
theorem B_Y8_timesOf_4 {kb wb : Nat} {σ : mx_S} {Q : mx_R → Prop} {l0 : Nat} {l1 : Nat} {l2 : Int} {l3 : Int} (K : ∃ (fs : List mx_V), sH σ (l0) = some (.inl (8, fs)) ∧ ∃ x2, fs[3]? = some (mI x2) ∧ (x2 ≤ l3 → Q (.inl (some (mI l2), σ))) ∧ (¬ (x2 ≤ l3) → ∃ (fs : List mx_V), sH σ (l0) = some (.inl (8, fs)) ∧ ∃ (r4 : Int) (σ3 : mx_S), mx_MS Y8_placesOf [mR l0, mI l3, mR l1] σ (.inl (some (mL (r4)), σ3)) ∧ sK σ3 ≤ kb ∧ sW σ3 ≤ wb ∧ ∃ (r7 : Int) (σ6 : mx_S), mx_MS YJ13_bitCount_95d88 [mL (r4)] σ3 (.inl (some (mI r7), σ6)) ∧ sK σ6 ≤ kb ∧ sW σ6 ≤ wb ∧ mx_J Y8_timesOf kb wb 4 [some (mR l0), some (mR l1), some (mI (mx_w (l2 + r7))), some (mI (mx_w (l3 + (1 : Int))))] [] σ6 Q)) : mx_J Y8_timesOf kb wb 4 [some (mR l0), some (mR l1), some (mI l2), some (mI l3)] [] σ Q := by
  refine mj_iload_n (k := 3) dX8_timesOf_4 rfl rfl ?_
  refine mj_aload_n (k := 0) dX8_timesOf_5 rfl rfl ?_
  obtain ⟨fs1, hffs1, x2, hxx2, K⟩ := K
  refine mj_get dX8_timesOf_6 lf_Y8_timesOf_22 hffs1 hxx2 ?_
  refine mj_icmp_ge (tgt := 30) dX8_timesOf_9 (by decide) ⟨fun h => ?_, fun h => ?_⟩
  · replace K := K.1 h
    refine mj_iload_n (k := 2) dX8_timesOf_30 rfl rfl ?_
    exact mj_ret (v := some (mI l2)) ⟨dX8_timesOf_31, .int, rfl, rfl⟩ K
  · replace K := K.2 h
    refine mj_iload_n (k := 2) dX8_timesOf_12 rfl rfl ?_
    refine mj_aload_n (k := 0) dX8_timesOf_13 rfl rfl ?_
    refine mj_iload_n (k := 3) dX8_timesOf_14 rfl rfl ?_
    refine mj_aload_n (k := 1) dX8_timesOf_15 rfl rfl ?_
    obtain ⟨fs5, hbfs5, K⟩ := K
    obtain ⟨r4, σ3, hMσ3, hkσ3, hwσ3, K⟩ := K
    refine mj_callV (As := [mI l3, mR l1]) (rest := [mI l2]) (b := l0) dX8_timesOf_16 k_Y8_timesOf_73 rfl hbfs5 rfl (Nat.le_of_ble_eq_true rfl) hMσ3 hkσ3 hwσ3 ?_
    obtain ⟨r7, σ6, hMσ6, hkσ6, hwσ6, K⟩ := K
    refine mj_callS (As := [mL (r4)]) (rest := [mI l2]) dX8_timesOf_19 k_Y8_timesOf_77 rfl (Nat.le_of_ble_eq_true rfl) hMσ6 hkσ6 hwσ6 ?_
    refine mj_iadd dX8_timesOf_22 ?_
    refine mj_istore_n (k := 2) (ls' := [some (mR l0), some (mR l1), some (mI (mx_w (l2 + r7))), some (mI l3)]) dX8_timesOf_23 rfl (by decide) rfl ?_
    refine mj_iinc (k := 3) (ls' := [some (mR l0), some (mR l1), some (mI (mx_w (l2 + r7))), some (mI (mx_w (l3 + (1 : Int))))]) dX8_timesOf_24 rfl (by decide) rfl ?_
    refine mj_goto (tgt := 4) dX8_timesOf_27 (by decide) ?_
    exact K
theorem B_Y9_commonAt_0 {kb wb : Nat} {σ : mx_S} {Q : mx_R → Prop} {l0 : Nat} {l1 : Int} (K : ∃ (fs : List mx_V), sH σ (l0) = some (.inl (9, fs)) ∧ ∃ (r2 : Int) (σ1 : mx_S), mx_MS Y9_codeAt [mR l0, mI l1] σ (.inl (some (mI r2), σ1)) ∧ sK σ1 ≤ kb ∧ sW σ1 ≤ wb ∧ ((0 : Int) ≤ r2 → ∃ (fs : List mx_V), sH σ1 (l0) = some (.inl (9, fs)) ∧ ∃ x5, fs[3]? = some (mR x5) ∧ ∃ (n6 : Nat) (f : Nat → mx_V), sH σ1 (x5) = some (.inr (0, n6, f)) ∧ 0 ≤ l1 ∧ l1 < (n6 : Int) ∧ ∃ x7, f (l1).toNat = mI x7 ∧ Q (.inl (some (mI x7), σ1))) ∧ (¬ ((0 : Int) ≤ r2) → Q (.inl (some (mI ((0 : Int))), σ1)))) : mx_J Y9_commonAt kb wb 0 [some (mR l0), some (mI l1)] [] σ Q := by
  refine mj_aload_n (k := 0) dX9_commonAt_0 rfl rfl ?_
  refine mj_iload_n (k := 1) dX9_commonAt_1 rfl rfl ?_
  obtain ⟨fs3, hbfs3, K⟩ := K
  obtain ⟨r2, σ1, hMσ1, hkσ1, hwσ1, K⟩ := K
  refine mj_callV (As := [mI l1]) (rest := []) (b := l0) dX9_commonAt_2 k_Y9_commonAt_73 rfl hbfs3 rfl (Nat.le_of_ble_eq_true rfl) hMσ1 hkσ1 hwσ1 ?_
  refine mj_if_ge (tgt := 12) dX9_commonAt_5 (by decide) ⟨fun h => ?_, fun h => ?_⟩
  · replace K := K.1 h
    refine mj_aload_n (k := 0) dX9_commonAt_12 rfl rfl ?_
    obtain ⟨fs4, hffs4, x5, hxx5, K⟩ := K
    refine mj_get dX9_commonAt_13 lf_Y9_commonAt_25 hffs4 hxx5 ?_
    refine mj_iload_n (k := 1) dX9_commonAt_16 rfl rfl ?_
    obtain ⟨n6, fn6, hfn6, h0n6, h1n6, x7, hxx7, K⟩ := K
    refine mj_iald dX9_commonAt_17 hfn6 h0n6 h1n6 ?_
    rw [hxx7]
    exact mj_ret (v := some (mI x7)) ⟨dX9_commonAt_18, .int, rfl, rfl⟩ K
  · replace K := K.2 h
    refine mj_iconst dX9_commonAt_8 ⟨by decide, by decide⟩ ?_
    refine mj_goto (tgt := 18) dX9_commonAt_9 (by decide) ?_
    exact mj_ret (v := some (mI ((0 : Int)))) ⟨dX9_commonAt_18, .int, rfl, rfl⟩ K
theorem B_Y9_runsOfTurned_0 {kb wb : Nat} {σ : mx_S} {Q : mx_R → Prop} {l0 : Nat} (K : mx_J Y9_runsOfTurned kb wb 4 [some (mR l0), some (mI ((0 : Int))), some (mI ((0 : Int)))] [] σ Q) : mx_J Y9_runsOfTurned kb wb 0 [some (mR l0), none, none] [] σ Q := by
  refine mj_iconst dX9_runsOfTurned_0 ⟨by decide, by decide⟩ ?_
  refine mj_istore_n (k := 1) (ls' := [some (mR l0), some (mI ((0 : Int))), none]) dX9_runsOfTurned_1 rfl (by decide) rfl ?_
  refine mj_iconst dX9_runsOfTurned_2 ⟨by decide, by decide⟩ ?_
  refine mj_istore_n (k := 2) (ls' := [some (mR l0), some (mI ((0 : Int))), some (mI ((0 : Int)))]) dX9_runsOfTurned_3 rfl (by decide) rfl ?_
  exact K
theorem B_Y9_runsOfTurned_4 {kb wb : Nat} {σ : mx_S} {Q : mx_R → Prop} {l0 : Nat} {l1 : Int} {l2 : Int} (K : ∃ (fs : List mx_V), sH σ (l0) = some (.inl (9, fs)) ∧ ∃ x2, fs[0]? = some (mR x2) ∧ ∃ (fs : List mx_V), sH σ (x2) = some (.inl (8, fs)) ∧ ∃ (r4 : Int) (σ3 : mx_S), mx_MS Y8_places [mR x2] σ (.inl (some (mI r4), σ3)) ∧ sK σ3 ≤ kb ∧ sW σ3 ≤ wb ∧ (r4 ≤ l2 → Q (.inl (some (mI l1), σ3))) ∧ (¬ (r4 ≤ l2) → (l2 = (0 : Int) → mx_J Y9_runsOfTurned kb wb 34 [some (mR l0), some (mI l1), some (mI l2)] [] σ3 Q) ∧ (¬ (l2 = (0 : Int)) → ∃ (fs : List mx_V), sH σ3 (l0) = some (.inl (9, fs)) ∧ ∃ (r7 : Int) (σ6 : mx_S), mx_MS Y9_turnedAt [mR l0, mI l2] σ3 (.inl (some (mI r7), σ6)) ∧ sK σ6 ≤ kb ∧ sW σ6 ≤ wb ∧ ∃ (fs : List mx_V), sH σ6 (l0) = some (.inl (9, fs)) ∧ ∃ (r10 : Int) (σ9 : mx_S), mx_MS Y9_turnedAt [mR l0, mI (mx_w (l2 - (1 : Int)))] σ6 (.inl (some (mI r10), σ9)) ∧ sK σ9 ≤ kb ∧ sW σ9 ≤ wb ∧ (r7 = r10 → mx_J Y9_runsOfTurned kb wb 37 [some (mR l0), some (mI l1), some (mI l2)] [] σ9 Q) ∧ (¬ (r7 = r10) → mx_J Y9_runsOfTurned kb wb 34 [some (mR l0), some (mI l1), some (mI l2)] [] σ9 Q)))) : mx_J Y9_runsOfTurned kb wb 4 [some (mR l0), some (mI l1), some (mI l2)] [] σ Q := by
  refine mj_iload_n (k := 2) dX9_runsOfTurned_4 rfl rfl ?_
  refine mj_aload_n (k := 0) dX9_runsOfTurned_5 rfl rfl ?_
  obtain ⟨fs1, hffs1, x2, hxx2, K⟩ := K
  refine mj_get dX9_runsOfTurned_6 lf_Y9_runsOfTurned_12 hffs1 hxx2 ?_
  obtain ⟨fs5, hbfs5, K⟩ := K
  obtain ⟨r4, σ3, hMσ3, hkσ3, hwσ3, K⟩ := K
  refine mj_callV (As := []) (rest := [mI l2]) (b := x2) dX9_runsOfTurned_9 k_Y9_runsOfTurned_80 rfl hbfs5 rfl (Nat.le_of_ble_eq_true rfl) hMσ3 hkσ3 hwσ3 ?_
  refine mj_icmp_ge (tgt := 43) dX9_runsOfTurned_12 (by decide) ⟨fun h => ?_, fun h => ?_⟩
  · replace K := K.1 h
    refine mj_iload_n (k := 1) dX9_runsOfTurned_43 rfl rfl ?_
    exact mj_ret (v := some (mI l1)) ⟨dX9_runsOfTurned_44, .int, rfl, rfl⟩ K
  · replace K := K.2 h
    refine mj_iload_n (k := 2) dX9_runsOfTurned_15 rfl rfl ?_
    refine mj_if_eq (tgt := 34) dX9_runsOfTurned_16 (by decide) ⟨fun h => ?_, fun h => ?_⟩
    · replace K := K.1 h
      exact K
    · replace K := K.2 h
      refine mj_aload_n (k := 0) dX9_runsOfTurned_19 rfl rfl ?_
      refine mj_iload_n (k := 2) dX9_runsOfTurned_20 rfl rfl ?_
      obtain ⟨fs8, hbfs8, K⟩ := K
      obtain ⟨r7, σ6, hMσ6, hkσ6, hwσ6, K⟩ := K
      refine mj_callV (As := [mI l2]) (rest := []) (b := l0) dX9_runsOfTurned_21 k_Y9_runsOfTurned_83 rfl hbfs8 rfl (Nat.le_of_ble_eq_true rfl) hMσ6 hkσ6 hwσ6 ?_
      refine mj_aload_n (k := 0) dX9_runsOfTurned_24 rfl rfl ?_
      refine mj_iload_n (k := 2) dX9_runsOfTurned_25 rfl rfl ?_
      refine mj_iconst dX9_runsOfTurned_26 ⟨by decide, by decide⟩ ?_
      refine mj_isub dX9_runsOfTurned_27 ?_
      obtain ⟨fs11, hbfs11, K⟩ := K
      obtain ⟨r10, σ9, hMσ9, hkσ9, hwσ9, K⟩ := K
      refine mj_callV (As := [mI (mx_w (l2 - (1 : Int)))]) (rest := [mI r7]) (b := l0) dX9_runsOfTurned_28 k_Y9_runsOfTurned_83 rfl hbfs11 rfl (Nat.le_of_ble_eq_true rfl) hMσ9 hkσ9 hwσ9 ?_
      refine mj_icmp_eq (tgt := 37) dX9_runsOfTurned_31 (by decide) ⟨fun h => ?_, fun h => ?_⟩
      · replace K := K.1 h
        exact K
      · replace K := K.2 h
        exact K
theorem B_Y9_runsOfTurned_34 {kb wb : Nat} {σ : mx_S} {Q : mx_R → Prop} {l0 : Nat} {l1 : Int} {l2 : Int} (K : mx_J Y9_runsOfTurned kb wb 37 [some (mR l0), some (mI (mx_w (l1 + (1 : Int)))), some (mI l2)] [] σ Q) : mx_J Y9_runsOfTurned kb wb 34 [some (mR l0), some (mI l1), some (mI l2)] [] σ Q := by
  refine mj_iinc (k := 1) (ls' := [some (mR l0), some (mI (mx_w (l1 + (1 : Int)))), some (mI l2)]) dX9_runsOfTurned_34 rfl (by decide) rfl ?_
  exact K
theorem B_Y9_runsOfTurned_37 {kb wb : Nat} {σ : mx_S} {Q : mx_R → Prop} {l0 : Nat} {l1 : Int} {l2 : Int} (K : mx_J Y9_runsOfTurned kb wb 4 [some (mR l0), some (mI l1), some (mI (mx_w (l2 + (1 : Int))))] [] σ Q) : mx_J Y9_runsOfTurned kb wb 37 [some (mR l0), some (mI l1), some (mI l2)] [] σ Q := by
  refine mj_iinc (k := 2) (ls' := [some (mR l0), some (mI l1), some (mI (mx_w (l2 + (1 : Int))))]) dX9_runsOfTurned_37 rfl (by decide) rfl ?_
  refine mj_goto (tgt := 4) dX9_runsOfTurned_40 (by decide) ?_
  exact K
theorem B_Y9_turnedAhead_0 {kb wb : Nat} {σ : mx_S} {Q : mx_R → Prop} {l0 : Nat} {l1 : Int} {l2 : Int} (K : mx_J Y9_turnedAhead kb wb 5 [some (mR l0), some (mI l1), some (mI l2), some (mI ((0 : Int))), some (mI ((0 : Int)))] [] σ Q) : mx_J Y9_turnedAhead kb wb 0 [some (mR l0), some (mI l1), some (mI l2), none, none] [] σ Q := by
  refine mj_iconst dX9_turnedAhead_0 ⟨by decide, by decide⟩ ?_
  refine mj_istore_n (k := 3) (ls' := [some (mR l0), some (mI l1), some (mI l2), some (mI ((0 : Int))), none]) dX9_turnedAhead_1 rfl (by decide) rfl ?_
  refine mj_iconst dX9_turnedAhead_2 ⟨by decide, by decide⟩ ?_
  refine mj_istore (k := 4) (ls' := [some (mR l0), some (mI l1), some (mI l2), some (mI ((0 : Int))), some (mI ((0 : Int)))]) dX9_turnedAhead_3 (by decide) rfl ?_
  exact K
theorem B_Y9_turnedAhead_5 {kb wb : Nat} {σ : mx_S} {Q : mx_R → Prop} {l0 : Nat} {l1 : Int} {l2 : Int} {l3 : Int} {l4 : Int} (K : (l2 ≤ l4 → Q (.inl (some (mI l3), σ))) ∧ (¬ (l2 ≤ l4) → ∃ (fs : List mx_V), sH σ (l0) = some (.inl (9, fs)) ∧ ∃ (r2 : Int) (σ1 : mx_S), mx_MS Y9_turnedAt [mR l0, mI l4] σ (.inl (some (mI r2), σ1)) ∧ sK σ1 ≤ kb ∧ sW σ1 ≤ wb ∧ (¬ r2 = l1 → mx_J Y9_turnedAhead kb wb 24 [some (mR l0), some (mI l1), some (mI l2), some (mI l3), some (mI l4)] [] σ1 Q) ∧ (¬ (¬ r2 = l1) → mx_J Y9_turnedAhead kb wb 24 [some (mR l0), some (mI l1), some (mI l2), some (mI (mx_w (l3 + (1 : Int)))), some (mI l4)] [] σ1 Q))) : mx_J Y9_turnedAhead kb wb 5 [some (mR l0), some (mI l1), some (mI l2), some (mI l3), some (mI l4)] [] σ Q := by
  refine mj_iload (k := 4) dX9_turnedAhead_5 rfl ?_
  refine mj_iload_n (k := 2) dX9_turnedAhead_7 rfl rfl ?_
  refine mj_icmp_ge (tgt := 30) dX9_turnedAhead_8 (by decide) ⟨fun h => ?_, fun h => ?_⟩
  · replace K := K.1 h
    refine mj_iload_n (k := 3) dX9_turnedAhead_30 rfl rfl ?_
    exact mj_ret (v := some (mI l3)) ⟨dX9_turnedAhead_31, .int, rfl, rfl⟩ K
  · replace K := K.2 h
    refine mj_aload_n (k := 0) dX9_turnedAhead_11 rfl rfl ?_
    refine mj_iload (k := 4) dX9_turnedAhead_12 rfl ?_
    obtain ⟨fs3, hbfs3, K⟩ := K
    obtain ⟨r2, σ1, hMσ1, hkσ1, hwσ1, K⟩ := K
    refine mj_callV (As := [mI l4]) (rest := []) (b := l0) dX9_turnedAhead_14 k_Y9_turnedAhead_83 rfl hbfs3 rfl (Nat.le_of_ble_eq_true rfl) hMσ1 hkσ1 hwσ1 ?_
    refine mj_iload_n (k := 1) dX9_turnedAhead_17 rfl rfl ?_
    refine mj_icmp_ne (tgt := 24) dX9_turnedAhead_18 (by decide) ⟨fun h => ?_, fun h => ?_⟩
    · replace K := K.1 h
      exact K
    · replace K := K.2 h
      refine mj_iinc (k := 3) (ls' := [some (mR l0), some (mI l1), some (mI l2), some (mI (mx_w (l3 + (1 : Int)))), some (mI l4)]) dX9_turnedAhead_21 rfl (by decide) rfl ?_
      exact K
theorem B_Y9_turnedAhead_24 {kb wb : Nat} {σ : mx_S} {Q : mx_R → Prop} {l0 : Nat} {l1 : Int} {l2 : Int} {l3 : Int} {l4 : Int} (K : mx_J Y9_turnedAhead kb wb 5 [some (mR l0), some (mI l1), some (mI l2), some (mI l3), some (mI (mx_w (l4 + (1 : Int))))] [] σ Q) : mx_J Y9_turnedAhead kb wb 24 [some (mR l0), some (mI l1), some (mI l2), some (mI l3), some (mI l4)] [] σ Q := by
  refine mj_iinc (k := 4) (ls' := [some (mR l0), some (mI l1), some (mI l2), some (mI l3), some (mI (mx_w (l4 + (1 : Int))))]) dX9_turnedAhead_24 rfl (by decide) rfl ?_
  refine mj_goto (tgt := 5) dX9_turnedAhead_27 (by decide) ?_
  exact K
theorem B_Y9_boundOf_0 {kb wb : Nat} {σ : mx_S} {Q : mx_R → Prop} {l0 : Nat} {l1 : Nat} {l2 : Int} {l3 : Int} (K : mx_J Y9_boundOf kb wb 6 [some (mR l0), some (mR l1), some (mI l2), some (mI l3), some (mI ((0 : Int))), some (mI ((0 : Int))), none, none] [] σ Q) : mx_J Y9_boundOf kb wb 0 [some (mR l0), some (mR l1), some (mI l2), some (mI l3), none, none, none, none] [] σ Q := by
  refine mj_iconst dX9_boundOf_0 ⟨by decide, by decide⟩ ?_
  refine mj_istore (k := 4) (ls' := [some (mR l0), some (mR l1), some (mI l2), some (mI l3), some (mI ((0 : Int))), none, none, none]) dX9_boundOf_1 (by decide) rfl ?_
  refine mj_iconst dX9_boundOf_3 ⟨by decide, by decide⟩ ?_
  refine mj_istore (k := 5) (ls' := [some (mR l0), some (mR l1), some (mI l2), some (mI l3), some (mI ((0 : Int))), some (mI ((0 : Int))), none, none]) dX9_boundOf_4 (by decide) rfl ?_
  exact K
theorem B_Y9_boundOf_6 {kb wb : Nat} {σ : mx_S} {Q : mx_R → Prop} {l0 : Nat} {l1 : Nat} {l2 : Int} {l3 : Int} {l4 : Int} {l5 : Int} (K : ∃ (fs : List mx_V), sH σ (l0) = some (.inl (9, fs)) ∧ ∃ x2, fs[0]? = some (mR x2) ∧ ∃ (fs : List mx_V), sH σ (x2) = some (.inl (8, fs)) ∧ ∃ (r4 : Int) (σ3 : mx_S), mx_MS Y8_many [mR x2] σ (.inl (some (mI r4), σ3)) ∧ sK σ3 ≤ kb ∧ sW σ3 ≤ wb ∧ (r4 ≤ l5 → Q (.inl (some (mI l4), σ3))) ∧ (¬ (r4 ≤ l5) → mx_J Y9_boundOf kb wb 21 [some (mR l0), some (mR l1), some (mI l2), some (mI l3), some (mI l4), some (mI l5), some (mI ((0 : Int))), none] [] σ3 Q)) : mx_J Y9_boundOf kb wb 6 [some (mR l0), some (mR l1), some (mI l2), some (mI l3), some (mI l4), some (mI l5), none, none] [] σ Q := by
  refine mj_iload (k := 5) dX9_boundOf_6 rfl ?_
  refine mj_aload_n (k := 0) dX9_boundOf_8 rfl rfl ?_
  obtain ⟨fs1, hffs1, x2, hxx2, K⟩ := K
  refine mj_get dX9_boundOf_9 lf_Y9_boundOf_12 hffs1 hxx2 ?_
  obtain ⟨fs5, hbfs5, K⟩ := K
  obtain ⟨r4, σ3, hMσ3, hkσ3, hwσ3, K⟩ := K
  refine mj_callV (As := []) (rest := [mI l5]) (b := x2) dX9_boundOf_12 k_Y9_boundOf_43 rfl hbfs5 rfl (Nat.le_of_ble_eq_true rfl) hMσ3 hkσ3 hwσ3 ?_
  refine mj_icmp_ge (tgt := 79) dX9_boundOf_15 (by decide) ⟨fun h => ?_, fun h => ?_⟩
  · replace K := K.1 h
    refine mj_iload (k := 4) dX9_boundOf_79 rfl ?_
    exact mj_ret (v := some (mI l4)) ⟨dX9_boundOf_81, .int, rfl, rfl⟩ K
  · replace K := K.2 h
    refine mj_iconst dX9_boundOf_18 ⟨by decide, by decide⟩ ?_
    refine mj_istore (k := 6) (ls' := [some (mR l0), some (mR l1), some (mI l2), some (mI l3), some (mI l4), some (mI l5), some (mI ((0 : Int))), none]) dX9_boundOf_19 (by decide) rfl ?_
    exact K
theorem B_Y9_boundOf_21 {kb wb : Nat} {σ : mx_S} {Q : mx_R → Prop} {l0 : Nat} {l1 : Nat} {l2 : Int} {l3 : Int} {l4 : Int} {l5 : Int} {l6 : Int} (K : ∃ (fs : List mx_V), sH σ (l0) = some (.inl (9, fs)) ∧ ∃ x2, fs[0]? = some (mR x2) ∧ ∃ (fs : List mx_V), sH σ (x2) = some (.inl (8, fs)) ∧ ∃ (r4 : Int) (σ3 : mx_S), mx_MS Y8_sizeAt [mR x2, mI l5] σ (.inl (some (mI r4), σ3)) ∧ sK σ3 ≤ kb ∧ sW σ3 ≤ wb ∧ (r4 ≤ l6 → mx_J Y9_boundOf kb wb 6 [some (mR l0), some (mR l1), some (mI l2), some (mI l3), some (mI l4), some (mI (mx_w (l5 + (1 : Int)))), none, none] [] σ3 Q) ∧ (¬ (r4 ≤ l6) → ∃ (fs : List mx_V), sH σ3 (l0) = some (.inl (9, fs)) ∧ ∃ x7, fs[0]? = some (mR x7) ∧ ∃ (fs : List mx_V), sH σ3 (x7) = some (.inl (8, fs)) ∧ ∃ (r9 : Int) (σ8 : mx_S), mx_MS Y8_compareToRow [mR x7, mI l5, mI l6, mR l1, mI l2] σ3 (.inl (some (mI r9), σ8)) ∧ sK σ8 ≤ kb ∧ sW σ8 ≤ wb ∧ (r9 < (0 : Int) → mx_J Y9_boundOf kb wb 64 [some (mR l0), some (mR l1), some (mI l2), some (mI l3), some (mI l4), some (mI l5), some (mI l6), some (mI r9)] [] σ8 Q) ∧ (¬ (r9 < (0 : Int)) → (¬ r9 = (0 : Int) → mx_J Y9_boundOf kb wb 67 [some (mR l0), some (mR l1), some (mI l2), some (mI l3), some (mI l4), some (mI l5), some (mI l6), some (mI r9)] [] σ8 Q) ∧ (¬ (¬ r9 = (0 : Int)) → (l3 = (0 : Int) → mx_J Y9_boundOf kb wb 67 [some (mR l0), some (mR l1), some (mI l2), some (mI l3), some (mI l4), some (mI l5), some (mI l6), some (mI r9)] [] σ8 Q) ∧ (¬ (l3 = (0 : Int)) → mx_J Y9_boundOf kb wb 64 [some (mR l0), some (mR l1), some (mI l2), some (mI l3), some (mI l4), some (mI l5), some (mI l6), some (mI r9)] [] σ8 Q))))) : mx_J Y9_boundOf kb wb 21 [some (mR l0), some (mR l1), some (mI l2), some (mI l3), some (mI l4), some (mI l5), some (mI l6), none] [] σ Q := by
  refine mj_iload (k := 6) dX9_boundOf_21 rfl ?_
  refine mj_aload_n (k := 0) dX9_boundOf_23 rfl rfl ?_
  obtain ⟨fs1, hffs1, x2, hxx2, K⟩ := K
  refine mj_get dX9_boundOf_24 lf_Y9_boundOf_12 hffs1 hxx2 ?_
  refine mj_iload (k := 5) dX9_boundOf_27 rfl ?_
  obtain ⟨fs5, hbfs5, K⟩ := K
  obtain ⟨r4, σ3, hMσ3, hkσ3, hwσ3, K⟩ := K
  refine mj_callV (As := [mI l5]) (rest := [mI l6]) (b := x2) dX9_boundOf_29 k_Y9_boundOf_46 rfl hbfs5 rfl (Nat.le_of_ble_eq_true rfl) hMσ3 hkσ3 hwσ3 ?_
  refine mj_icmp_ge (tgt := 73) dX9_boundOf_32 (by decide) ⟨fun h => ?_, fun h => ?_⟩
  · replace K := K.1 h
    refine mj_iinc (k := 5) (ls' := [some (mR l0), some (mR l1), some (mI l2), some (mI l3), some (mI l4), some (mI (mx_w (l5 + (1 : Int)))), some (mI l6), none]) dX9_boundOf_73 rfl (by decide) rfl ?_
    refine mj_goto (tgt := 6) dX9_boundOf_76 (by decide) ?_
    exact mj_forget (ls' := [some (mR l0), some (mR l1), some (mI l2), some (mI l3), some (mI l4), some (mI (mx_w (l5 + (1 : Int)))), none, none]) ⟨rfl, ⟨rfl, ⟨rfl, ⟨rfl, ⟨rfl, ⟨rfl, trivial⟩⟩⟩⟩⟩⟩ K
  · replace K := K.2 h
    refine mj_aload_n (k := 0) dX9_boundOf_35 rfl rfl ?_
    obtain ⟨fs6, hffs6, x7, hxx7, K⟩ := K
    refine mj_get dX9_boundOf_36 lf_Y9_boundOf_12 hffs6 hxx7 ?_
    refine mj_iload (k := 5) dX9_boundOf_39 rfl ?_
    refine mj_iload (k := 6) dX9_boundOf_41 rfl ?_
    refine mj_aload_n (k := 1) dX9_boundOf_43 rfl rfl ?_
    refine mj_iload_n (k := 2) dX9_boundOf_44 rfl rfl ?_
    obtain ⟨fs10, hbfs10, K⟩ := K
    obtain ⟨r9, σ8, hMσ8, hkσ8, hwσ8, K⟩ := K
    refine mj_callV (As := [mI l5, mI l6, mR l1, mI l2]) (rest := []) (b := x7) dX9_boundOf_45 k_Y9_boundOf_87 rfl hbfs10 rfl (Nat.le_of_ble_eq_true rfl) hMσ8 hkσ8 hwσ8 ?_
    refine mj_istore (k := 7) (ls' := [some (mR l0), some (mR l1), some (mI l2), some (mI l3), some (mI l4), some (mI l5), some (mI l6), some (mI r9)]) dX9_boundOf_48 (by decide) rfl ?_
    refine mj_iload (k := 7) dX9_boundOf_50 rfl ?_
    refine mj_if_lt (tgt := 64) dX9_boundOf_52 (by decide) ⟨fun h => ?_, fun h => ?_⟩
    · replace K := K.1 h
      exact K
    · replace K := K.2 h
      refine mj_iload (k := 7) dX9_boundOf_55 rfl ?_
      refine mj_if_ne (tgt := 67) dX9_boundOf_57 (by decide) ⟨fun h => ?_, fun h => ?_⟩
      · replace K := K.1 h
        exact K
      · replace K := K.2 h
        refine mj_iload_n (k := 3) dX9_boundOf_60 rfl rfl ?_
        refine mj_if_eq (tgt := 67) dX9_boundOf_61 (by decide) ⟨fun h => ?_, fun h => ?_⟩
        · replace K := K.1 h
          exact K
        · replace K := K.2 h
          exact K
theorem B_Y9_boundOf_64 {kb wb : Nat} {σ : mx_S} {Q : mx_R → Prop} {l0 : Nat} {l1 : Nat} {l2 : Int} {l3 : Int} {l4 : Int} {l5 : Int} {l6 : Int} {l7 : Int} (K : mx_J Y9_boundOf kb wb 67 [some (mR l0), some (mR l1), some (mI l2), some (mI l3), some (mI (mx_w (l4 + (1 : Int)))), some (mI l5), some (mI l6), some (mI l7)] [] σ Q) : mx_J Y9_boundOf kb wb 64 [some (mR l0), some (mR l1), some (mI l2), some (mI l3), some (mI l4), some (mI l5), some (mI l6), some (mI l7)] [] σ Q := by
  refine mj_iinc (k := 4) (ls' := [some (mR l0), some (mR l1), some (mI l2), some (mI l3), some (mI (mx_w (l4 + (1 : Int)))), some (mI l5), some (mI l6), some (mI l7)]) dX9_boundOf_64 rfl (by decide) rfl ?_
  exact K
theorem B_Y9_boundOf_67 {kb wb : Nat} {σ : mx_S} {Q : mx_R → Prop} {l0 : Nat} {l1 : Nat} {l2 : Int} {l3 : Int} {l4 : Int} {l5 : Int} {l6 : Int} {l7 : Int} (K : mx_J Y9_boundOf kb wb 21 [some (mR l0), some (mR l1), some (mI l2), some (mI l3), some (mI l4), some (mI l5), some (mI (mx_w (l6 + (1 : Int)))), none] [] σ Q) : mx_J Y9_boundOf kb wb 67 [some (mR l0), some (mR l1), some (mI l2), some (mI l3), some (mI l4), some (mI l5), some (mI l6), some (mI l7)] [] σ Q := by
  refine mj_iinc (k := 6) (ls' := [some (mR l0), some (mR l1), some (mI l2), some (mI l3), some (mI l4), some (mI l5), some (mI (mx_w (l6 + (1 : Int)))), some (mI l7)]) dX9_boundOf_67 rfl (by decide) rfl ?_
  refine mj_goto (tgt := 21) dX9_boundOf_70 (by decide) ?_
  exact mj_forget (ls' := [some (mR l0), some (mR l1), some (mI l2), some (mI l3), some (mI l4), some (mI l5), some (mI (mx_w (l6 + (1 : Int)))), none]) ⟨rfl, ⟨rfl, ⟨rfl, ⟨rfl, ⟨rfl, ⟨rfl, ⟨rfl, trivial⟩⟩⟩⟩⟩⟩⟩ K
theorem B_Y10_init_0 {kb wb : Nat} {σ : mx_S} {Q : mx_R → Prop} {l0 : Nat} (K : sK σ + 1 ≤ kb ∧ sW σ + 2 ≤ wb ∧ ∀ σ1 a2, σ1 = mx_al σ (.inl (6, [mN, mI 0])) 2 → a2 = sN σ → ∃ (σ3 : mx_S), mx_MS Y6_init [mR a2] σ1 (.inl (none, σ3)) ∧ sK σ3 ≤ kb ∧ sW σ3 ≤ wb ∧ ∃ (fs : List mx_V), sH σ3 (l0) = some (.inl (10, fs)) ∧ 0 < fs.length ∧ sB σ3 ≤ l0 ∧ ∀ σ5, σ5 = mx_wr σ3 (l0) (.inl (10, fs.set 0 (mR a2))) → sK σ5 + 1 ≤ kb ∧ sW σ5 + 7 ≤ wb ∧ ∀ σ6 a7, σ6 = mx_al σ5 (.inl (2, [mN, mN, mN, mN, mN, mI 0, mI 0])) 7 → a7 = sN σ5 → ∃ (σ8 : mx_S), mx_MS Y2_init [mR a7] σ6 (.inl (none, σ8)) ∧ sK σ8 ≤ kb ∧ sW σ8 ≤ wb ∧ ∃ (fs : List mx_V), sH σ8 (l0) = some (.inl (10, fs)) ∧ 1 < fs.length ∧ sB σ8 ≤ l0 ∧ ∀ σ10, σ10 = mx_wr σ8 (l0) (.inl (10, fs.set 1 (mR a7))) → sK σ10 + 1 ≤ kb ∧ sW σ10 + 7 ≤ wb ∧ ∀ σ11 a12, σ11 = mx_al σ10 (.inl (2, [mN, mN, mN, mN, mN, mI 0, mI 0])) 7 → a12 = sN σ10 → ∃ (σ13 : mx_S), mx_MS Y2_init [mR a12] σ11 (.inl (none, σ13)) ∧ sK σ13 ≤ kb ∧ sW σ13 ≤ wb ∧ ∃ (fs : List mx_V), sH σ13 (l0) = some (.inl (10, fs)) ∧ 2 < fs.length ∧ sB σ13 ≤ l0 ∧ ∀ σ15, σ15 = mx_wr σ13 (l0) (.inl (10, fs.set 2 (mR a12))) → sK σ15 + 1 ≤ kb ∧ sW σ15 + 6 ≤ wb ∧ ∀ σ16 a17, σ16 = mx_al σ15 (.inl (5, [mN, mN, mI 0, mI 0, mI 0, mI 0])) 6 → a17 = sN σ15 → ∃ (σ18 : mx_S), mx_MS Y5_init [mR a17] σ16 (.inl (none, σ18)) ∧ sK σ18 ≤ kb ∧ sW σ18 ≤ wb ∧ ∃ (fs : List mx_V), sH σ18 (l0) = some (.inl (10, fs)) ∧ 3 < fs.length ∧ sB σ18 ≤ l0 ∧ ∀ σ20, σ20 = mx_wr σ18 (l0) (.inl (10, fs.set 3 (mR a17))) → sK σ20 + 1 ≤ kb ∧ sW σ20 + 5 ≤ wb ∧ ∀ σ21 a22, σ21 = mx_al σ20 (.inl (1, [mN, mN, mN, mI 0, mI 0])) 5 → a22 = sN σ20 → ∃ (σ23 : mx_S), mx_MS Y1_init [mR a22] σ21 (.inl (none, σ23)) ∧ sK σ23 ≤ kb ∧ sW σ23 ≤ wb ∧ ∃ (fs : List mx_V), sH σ23 (l0) = some (.inl (10, fs)) ∧ 4 < fs.length ∧ sB σ23 ≤ l0 ∧ ∀ σ25, σ25 = mx_wr σ23 (l0) (.inl (10, fs.set 4 (mR a22))) → sK σ25 + 1 ≤ kb ∧ sW σ25 + 6 ≤ wb ∧ ∀ σ26 a27, σ26 = mx_al σ25 (.inl (4, [mN, mN, mN, mI 0, mI 0, mI 0])) 6 → a27 = sN σ25 → ∃ (σ28 : mx_S), mx_MS Y4_init [mR a27] σ26 (.inl (none, σ28)) ∧ sK σ28 ≤ kb ∧ sW σ28 ≤ wb ∧ ∃ (fs : List mx_V), sH σ28 (l0) = some (.inl (10, fs)) ∧ 5 < fs.length ∧ sB σ28 ≤ l0 ∧ ∀ σ30, σ30 = mx_wr σ28 (l0) (.inl (10, fs.set 5 (mR a27))) → sK σ30 + 1 ≤ kb ∧ sW σ30 + 3 ≤ wb ∧ ∀ σ31 a32, σ31 = mx_al σ30 (.inl (3, [mN, mI 0, mI 0])) 3 → a32 = sN σ30 → ∃ (σ33 : mx_S), mx_MS Y3_init [mR a32] σ31 (.inl (none, σ33)) ∧ sK σ33 ≤ kb ∧ sW σ33 ≤ wb ∧ ∃ (fs : List mx_V), sH σ33 (l0) = some (.inl (10, fs)) ∧ 6 < fs.length ∧ sB σ33 ≤ l0 ∧ ∀ σ35, σ35 = mx_wr σ33 (l0) (.inl (10, fs.set 6 (mR a32))) → Q (.inl (none, σ35))) : mx_J Y10_init kb wb 0 [some (mR l0)] [] σ Q := by
  refine mj_aload_n (k := 0) dX10_init_0 rfl rfl ?_
  refine mj_objInit (rest := []) dX10_init_1 w_46 w_47 w_objcode (by decide) (Nat.le_of_ble_eq_true rfl) ?_
  refine mj_aload_n (k := 0) dX10_init_4 rfl rfl ?_
  obtain ⟨hka2, hwa2, K⟩ := K
  replace K := K _ _ rfl rfl
  refine mj_new dX10_init_5 nf_Y10_init_9 hka2 hwa2 ?_
  change mx_J _ _ _ _ _ (mR (sN σ) :: _) (mx_al σ (.inl (6, [mN, mI 0])) 2) _
  generalize mx_al σ (.inl (6, [mN, mI 0])) 2 = σ1 at K ⊢
  generalize sN σ = a2 at K ⊢
  refine mj_dup dX10_init_8 rfl ?_
  obtain ⟨σ3, hMσ3, hkσ3, hwσ3, K⟩ := K
  refine mj_callIN (As := []) (rest := [mR a2, mR l0]) (b := a2) dX10_init_9 k_Y10_init_11 rfl (Nat.le_of_ble_eq_true rfl) hMσ3 hkσ3 hwσ3 ?_
  obtain ⟨fs4, hffs4, hlfs4, hbfs4, K⟩ := K
  replace K := K _ rfl
  refine mj_put dX10_init_12 pf_Y10_init_12 hffs4 hlfs4 hbfs4 ⟨rfl, rfl⟩ ?_
  generalize mx_wr σ3 (l0) (.inl (10, fs4.set 0 (mR a2))) = σ5 at K ⊢
  refine mj_aload_n (k := 0) dX10_init_15 rfl rfl ?_
  obtain ⟨hka7, hwa7, K⟩ := K
  replace K := K _ _ rfl rfl
  refine mj_new dX10_init_16 nf_Y10_init_16 hka7 hwa7 ?_
  change mx_J _ _ _ _ _ (mR (sN σ5) :: _) (mx_al σ5 (.inl (2, [mN, mN, mN, mN, mN, mI 0, mI 0])) 7) _
  generalize mx_al σ5 (.inl (2, [mN, mN, mN, mN, mN, mI 0, mI 0])) 7 = σ6 at K ⊢
  generalize sN σ5 = a7 at K ⊢
  refine mj_dup dX10_init_19 rfl ?_
  obtain ⟨σ8, hMσ8, hkσ8, hwσ8, K⟩ := K
  refine mj_callI (As := []) (rest := [mR a7, mR l0]) (b := a7) dX10_init_20 k_Y10_init_18 rfl (Nat.le_of_ble_eq_true rfl) hMσ8 hkσ8 hwσ8 ?_
  obtain ⟨fs9, hffs9, hlfs9, hbfs9, K⟩ := K
  replace K := K _ rfl
  refine mj_put dX10_init_23 pf_Y10_init_19 hffs9 hlfs9 hbfs9 ⟨rfl, rfl⟩ ?_
  generalize mx_wr σ8 (l0) (.inl (10, fs9.set 1 (mR a7))) = σ10 at K ⊢
  refine mj_aload_n (k := 0) dX10_init_26 rfl rfl ?_
  obtain ⟨hka12, hwa12, K⟩ := K
  replace K := K _ _ rfl rfl
  refine mj_new dX10_init_27 nf_Y10_init_16 hka12 hwa12 ?_
  change mx_J _ _ _ _ _ (mR (sN σ10) :: _) (mx_al σ10 (.inl (2, [mN, mN, mN, mN, mN, mI 0, mI 0])) 7) _
  generalize mx_al σ10 (.inl (2, [mN, mN, mN, mN, mN, mI 0, mI 0])) 7 = σ11 at K ⊢
  generalize sN σ10 = a12 at K ⊢
  refine mj_dup dX10_init_30 rfl ?_
  obtain ⟨σ13, hMσ13, hkσ13, hwσ13, K⟩ := K
  refine mj_callI (As := []) (rest := [mR a12, mR l0]) (b := a12) dX10_init_31 k_Y10_init_18 rfl (Nat.le_of_ble_eq_true rfl) hMσ13 hkσ13 hwσ13 ?_
  obtain ⟨fs14, hffs14, hlfs14, hbfs14, K⟩ := K
  replace K := K _ rfl
  refine mj_put dX10_init_34 pf_Y10_init_23 hffs14 hlfs14 hbfs14 ⟨rfl, rfl⟩ ?_
  generalize mx_wr σ13 (l0) (.inl (10, fs14.set 2 (mR a12))) = σ15 at K ⊢
  refine mj_aload_n (k := 0) dX10_init_37 rfl rfl ?_
  obtain ⟨hka17, hwa17, K⟩ := K
  replace K := K _ _ rfl rfl
  refine mj_new dX10_init_38 nf_Y10_init_26 hka17 hwa17 ?_
  change mx_J _ _ _ _ _ (mR (sN σ15) :: _) (mx_al σ15 (.inl (5, [mN, mN, mI 0, mI 0, mI 0, mI 0])) 6) _
  generalize mx_al σ15 (.inl (5, [mN, mN, mI 0, mI 0, mI 0, mI 0])) 6 = σ16 at K ⊢
  generalize sN σ15 = a17 at K ⊢
  refine mj_dup dX10_init_41 rfl ?_
  obtain ⟨σ18, hMσ18, hkσ18, hwσ18, K⟩ := K
  refine mj_callIN (As := []) (rest := [mR a17, mR l0]) (b := a17) dX10_init_42 k_Y10_init_28 rfl (Nat.le_of_ble_eq_true rfl) hMσ18 hkσ18 hwσ18 ?_
  obtain ⟨fs19, hffs19, hlfs19, hbfs19, K⟩ := K
  replace K := K _ rfl
  refine mj_put dX10_init_45 pf_Y10_init_29 hffs19 hlfs19 hbfs19 ⟨rfl, rfl⟩ ?_
  generalize mx_wr σ18 (l0) (.inl (10, fs19.set 3 (mR a17))) = σ20 at K ⊢
  refine mj_aload_n (k := 0) dX10_init_48 rfl rfl ?_
  obtain ⟨hka22, hwa22, K⟩ := K
  replace K := K _ _ rfl rfl
  refine mj_new dX10_init_49 nf_Y10_init_33 hka22 hwa22 ?_
  change mx_J _ _ _ _ _ (mR (sN σ20) :: _) (mx_al σ20 (.inl (1, [mN, mN, mN, mI 0, mI 0])) 5) _
  generalize mx_al σ20 (.inl (1, [mN, mN, mN, mI 0, mI 0])) 5 = σ21 at K ⊢
  generalize sN σ20 = a22 at K ⊢
  refine mj_dup dX10_init_52 rfl ?_
  obtain ⟨σ23, hMσ23, hkσ23, hwσ23, K⟩ := K
  refine mj_callIN (As := []) (rest := [mR a22, mR l0]) (b := a22) dX10_init_53 k_Y10_init_35 rfl (Nat.le_of_ble_eq_true rfl) hMσ23 hkσ23 hwσ23 ?_
  obtain ⟨fs24, hffs24, hlfs24, hbfs24, K⟩ := K
  replace K := K _ rfl
  refine mj_put dX10_init_56 pf_Y10_init_36 hffs24 hlfs24 hbfs24 ⟨rfl, rfl⟩ ?_
  generalize mx_wr σ23 (l0) (.inl (10, fs24.set 4 (mR a22))) = σ25 at K ⊢
  refine mj_aload_n (k := 0) dX10_init_59 rfl rfl ?_
  obtain ⟨hka27, hwa27, K⟩ := K
  replace K := K _ _ rfl rfl
  refine mj_new dX10_init_60 nf_Y10_init_40 hka27 hwa27 ?_
  change mx_J _ _ _ _ _ (mR (sN σ25) :: _) (mx_al σ25 (.inl (4, [mN, mN, mN, mI 0, mI 0, mI 0])) 6) _
  generalize mx_al σ25 (.inl (4, [mN, mN, mN, mI 0, mI 0, mI 0])) 6 = σ26 at K ⊢
  generalize sN σ25 = a27 at K ⊢
  refine mj_dup dX10_init_63 rfl ?_
  obtain ⟨σ28, hMσ28, hkσ28, hwσ28, K⟩ := K
  refine mj_callIN (As := []) (rest := [mR a27, mR l0]) (b := a27) dX10_init_64 k_Y10_init_42 rfl (Nat.le_of_ble_eq_true rfl) hMσ28 hkσ28 hwσ28 ?_
  obtain ⟨fs29, hffs29, hlfs29, hbfs29, K⟩ := K
  replace K := K _ rfl
  refine mj_put dX10_init_67 pf_Y10_init_43 hffs29 hlfs29 hbfs29 ⟨rfl, rfl⟩ ?_
  generalize mx_wr σ28 (l0) (.inl (10, fs29.set 5 (mR a27))) = σ30 at K ⊢
  refine mj_aload_n (k := 0) dX10_init_70 rfl rfl ?_
  obtain ⟨hka32, hwa32, K⟩ := K
  replace K := K _ _ rfl rfl
  refine mj_new dX10_init_71 nf_Y10_init_47 hka32 hwa32 ?_
  change mx_J _ _ _ _ _ (mR (sN σ30) :: _) (mx_al σ30 (.inl (3, [mN, mI 0, mI 0])) 3) _
  generalize mx_al σ30 (.inl (3, [mN, mI 0, mI 0])) 3 = σ31 at K ⊢
  generalize sN σ30 = a32 at K ⊢
  refine mj_dup dX10_init_74 rfl ?_
  obtain ⟨σ33, hMσ33, hkσ33, hwσ33, K⟩ := K
  refine mj_callIN (As := []) (rest := [mR a32, mR l0]) (b := a32) dX10_init_75 k_Y10_init_49 rfl (Nat.le_of_ble_eq_true rfl) hMσ33 hkσ33 hwσ33 ?_
  obtain ⟨fs34, hffs34, hlfs34, hbfs34, K⟩ := K
  replace K := K _ rfl
  refine mj_put dX10_init_78 pf_Y10_init_50 hffs34 hlfs34 hbfs34 ⟨rfl, rfl⟩ ?_
  generalize mx_wr σ33 (l0) (.inl (10, fs34.set 6 (mR a32))) = σ35 at K ⊢
  exact mj_ret (v := none) ⟨dX10_init_81, rfl⟩ K
theorem B_Y10_isSign_0 {kb wb : Nat} {σ : mx_S} {Q : mx_R → Prop} {l0 : Int} (K : ∃ (r2 : Int) (σ1 : mx_S), mx_MS Y10_isLetter [mI l0] σ (.inl (some (mI r2), σ1)) ∧ sK σ1 ≤ kb ∧ sW σ1 ≤ wb ∧ (¬ r2 = (0 : Int) → mx_J Y10_isSign kb wb 43 [some (mI l0)] [] σ1 Q) ∧ (¬ (¬ r2 = (0 : Int)) → (l0 = (46 : Int) → mx_J Y10_isSign kb wb 43 [some (mI l0)] [] σ1 Q) ∧ (¬ (l0 = (46 : Int)) → (l0 = (126 : Int) → mx_J Y10_isSign kb wb 43 [some (mI l0)] [] σ1 Q) ∧ (¬ (l0 = (126 : Int)) → (l0 = (40 : Int) → mx_J Y10_isSign kb wb 43 [some (mI l0)] [] σ1 Q) ∧ (¬ (l0 = (40 : Int)) → (l0 = (41 : Int) → mx_J Y10_isSign kb wb 43 [some (mI l0)] [] σ1 Q) ∧ (¬ (l0 = (41 : Int)) → (l0 = (124 : Int) → mx_J Y10_isSign kb wb 43 [some (mI l0)] [] σ1 Q) ∧ (¬ (l0 = (124 : Int)) → (¬ l0 = (42 : Int) → Q (.inl (some (mI ((0 : Int))), σ1))) ∧ (¬ (¬ l0 = (42 : Int)) → mx_J Y10_isSign kb wb 43 [some (mI l0)] [] σ1 Q)))))))) : mx_J Y10_isSign kb wb 0 [some (mI l0)] [] σ Q := by
  refine mj_iload_n (k := 0) dX10_isSign_0 rfl rfl ?_
  obtain ⟨r2, σ1, hMσ1, hkσ1, hwσ1, K⟩ := K
  refine mj_callS (As := [mI l0]) (rest := []) dX10_isSign_1 k_Y10_isSign_210 rfl (Nat.le_of_ble_eq_true rfl) hMσ1 hkσ1 hwσ1 ?_
  refine mj_if_ne (tgt := 43) dX10_isSign_4 (by decide) ⟨fun h => ?_, fun h => ?_⟩
  · replace K := K.1 h
    exact K
  · replace K := K.2 h
    refine mj_iload_n (k := 0) dX10_isSign_7 rfl rfl ?_
    refine mj_bipush (n := 46) dX10_isSign_8 ⟨by decide, by decide⟩ (by decide) ?_
    refine mj_icmp_eq (tgt := 43) dX10_isSign_10 (by decide) ⟨fun h => ?_, fun h => ?_⟩
    · replace K := K.1 h
      exact K
    · replace K := K.2 h
      refine mj_iload_n (k := 0) dX10_isSign_13 rfl rfl ?_
      refine mj_bipush (n := 126) dX10_isSign_14 ⟨by decide, by decide⟩ (by decide) ?_
      refine mj_icmp_eq (tgt := 43) dX10_isSign_16 (by decide) ⟨fun h => ?_, fun h => ?_⟩
      · replace K := K.1 h
        exact K
      · replace K := K.2 h
        refine mj_iload_n (k := 0) dX10_isSign_19 rfl rfl ?_
        refine mj_bipush (n := 40) dX10_isSign_20 ⟨by decide, by decide⟩ (by decide) ?_
        refine mj_icmp_eq (tgt := 43) dX10_isSign_22 (by decide) ⟨fun h => ?_, fun h => ?_⟩
        · replace K := K.1 h
          exact K
        · replace K := K.2 h
          refine mj_iload_n (k := 0) dX10_isSign_25 rfl rfl ?_
          refine mj_bipush (n := 41) dX10_isSign_26 ⟨by decide, by decide⟩ (by decide) ?_
          refine mj_icmp_eq (tgt := 43) dX10_isSign_28 (by decide) ⟨fun h => ?_, fun h => ?_⟩
          · replace K := K.1 h
            exact K
          · replace K := K.2 h
            refine mj_iload_n (k := 0) dX10_isSign_31 rfl rfl ?_
            refine mj_bipush (n := 124) dX10_isSign_32 ⟨by decide, by decide⟩ (by decide) ?_
            refine mj_icmp_eq (tgt := 43) dX10_isSign_34 (by decide) ⟨fun h => ?_, fun h => ?_⟩
            · replace K := K.1 h
              exact K
            · replace K := K.2 h
              refine mj_iload_n (k := 0) dX10_isSign_37 rfl rfl ?_
              refine mj_bipush (n := 42) dX10_isSign_38 ⟨by decide, by decide⟩ (by decide) ?_
              refine mj_icmp_ne (tgt := 47) dX10_isSign_40 (by decide) ⟨fun h => ?_, fun h => ?_⟩
              · replace K := K.1 h
                refine mj_iconst dX10_isSign_47 ⟨by decide, by decide⟩ ?_
                exact mj_ret (v := some (mI ((0 : Int)))) ⟨dX10_isSign_48, .boolean, rfl, by decide⟩ K
              · replace K := K.2 h
                exact K
theorem B_Y10_isSign_43 {kb wb : Nat} {σ : mx_S} {Q : mx_R → Prop} {l0 : Int} (K : Q (.inl (some (mI ((1 : Int))), σ))) : mx_J Y10_isSign kb wb 43 [some (mI l0)] [] σ Q := by
  refine mj_iconst dX10_isSign_43 ⟨by decide, by decide⟩ ?_
  refine mj_goto (tgt := 48) dX10_isSign_44 (by decide) ?_
  exact mj_ret (v := some (mI ((1 : Int)))) ⟨dX10_isSign_48, .boolean, rfl, by decide⟩ K
theorem B_Y10_type_0 {kb wb : Nat} {σ : mx_S} {Q : mx_R → Prop} {l0 : Nat} {l1 : Int} (K : ∃ (r2 : Int) (σ1 : mx_S), mx_MS Y10_isSign [mI l1] σ (.inl (some (mI r2), σ1)) ∧ sK σ1 ≤ kb ∧ sW σ1 ≤ wb ∧ (¬ r2 = (0 : Int) → ∃ (fs : List mx_V), sH σ1 (l0) = some (.inl (10, fs)) ∧ ∃ x4, fs[0]? = some (mR x4) ∧ ∃ (fs : List mx_V), sH σ1 (x4) = some (.inl (6, fs)) ∧ ∃ (r6 : Int) (σ5 : mx_S), mx_MS Y6_size [mR x4] σ1 (.inl (some (mI r6), σ5)) ∧ sK σ5 ≤ kb ∧ sW σ5 ≤ wb ∧ (r6 < (20 : Int) → ∃ (fs : List mx_V), sH σ5 (l0) = some (.inl (10, fs)) ∧ ∃ x9, fs[0]? = some (mR x9) ∧ ∃ (fs : List mx_V), sH σ5 (x9) = some (.inl (6, fs)) ∧ ∃ (σ10 : mx_S), mx_MS Y6_append [mR x9, mI l1] σ5 (.inl (none, σ10)) ∧ sK σ10 ≤ kb ∧ sW σ10 ≤ wb ∧ ∃ (fs : List mx_V), sH σ10 (l0) = some (.inl (10, fs)) ∧ ∃ x13, fs[0]? = some (mR x13) ∧ ∃ (fs : List mx_V), sH σ10 (x13) = some (.inl (6, fs)) ∧ ∃ (r15 : Int) (σ14 : mx_S), mx_MS Y6_size [mR x13] σ10 (.inl (some (mI r15), σ14)) ∧ sK σ14 ≤ kb ∧ sW σ14 ≤ wb ∧ Q (.inl (some (mI r15), σ14))) ∧ (¬ (r6 < (20 : Int)) → sK σ5 + 1 ≤ kb ∧ sW σ5 + 6 ≤ wb ∧ Q (.inr ("java/lang/IllegalStateException", (sB σ5, sH σ5, sN σ5, sK σ5 + 1, sW σ5 + 6))))) ∧ (¬ (¬ r2 = (0 : Int)) → sK σ1 + 1 ≤ kb ∧ sW σ1 + 6 ≤ wb ∧ Q (.inr ("java/lang/IllegalArgumentException", (sB σ1, sH σ1, sN σ1, sK σ1 + 1, sW σ1 + 6))))) : mx_J Y10_type kb wb 0 [some (mR l0), some (mI l1)] [] σ Q := by
  refine mj_iload_n (k := 1) dX10_type_0 rfl rfl ?_
  obtain ⟨r2, σ1, hMσ1, hkσ1, hwσ1, K⟩ := K
  refine mj_callS (As := [mI l1]) (rest := []) dX10_type_1 k_Y10_type_54 rfl (Nat.le_of_ble_eq_true rfl) hMσ1 hkσ1 hwσ1 ?_
  refine mj_if_ne (tgt := 17) dX10_type_4 (by decide) ⟨fun h => ?_, fun h => ?_⟩
  · replace K := K.1 h
    refine mj_aload_n (k := 0) dX10_type_17 rfl rfl ?_
    obtain ⟨fs3, hffs3, x4, hxx4, K⟩ := K
    refine mj_get dX10_type_18 lf_Y10_type_12 hffs3 hxx4 ?_
    obtain ⟨fs7, hbfs7, K⟩ := K
    obtain ⟨r6, σ5, hMσ5, hkσ5, hwσ5, K⟩ := K
    refine mj_callV (As := []) (rest := []) (b := x4) dX10_type_21 k_Y10_type_65 rfl hbfs7 rfl (Nat.le_of_ble_eq_true rfl) hMσ5 hkσ5 hwσ5 ?_
    refine mj_bipush (n := 20) dX10_type_24 ⟨by decide, by decide⟩ (by decide) ?_
    refine mj_icmp_lt (tgt := 39) dX10_type_26 (by decide) ⟨fun h => ?_, fun h => ?_⟩
    · replace K := K.1 h
      refine mj_aload_n (k := 0) dX10_type_39 rfl rfl ?_
      obtain ⟨fs8, hffs8, x9, hxx9, K⟩ := K
      refine mj_get dX10_type_40 lf_Y10_type_12 hffs8 hxx9 ?_
      refine mj_iload_n (k := 1) dX10_type_43 rfl rfl ?_
      obtain ⟨fs11, hbfs11, K⟩ := K
      obtain ⟨σ10, hMσ10, hkσ10, hwσ10, K⟩ := K
      refine mj_callV (As := [mI l1]) (rest := []) (b := x9) dX10_type_44 k_Y10_type_74 rfl hbfs11 rfl (Nat.le_of_ble_eq_true rfl) hMσ10 hkσ10 hwσ10 ?_
      refine mj_aload_n (k := 0) dX10_type_47 rfl rfl ?_
      obtain ⟨fs12, hffs12, x13, hxx13, K⟩ := K
      refine mj_get dX10_type_48 lf_Y10_type_12 hffs12 hxx13 ?_
      obtain ⟨fs16, hbfs16, K⟩ := K
      obtain ⟨r15, σ14, hMσ14, hkσ14, hwσ14, K⟩ := K
      refine mj_callV (As := []) (rest := []) (b := x13) dX10_type_51 k_Y10_type_65 rfl hbfs16 rfl (Nat.le_of_ble_eq_true rfl) hMσ14 hkσ14 hwσ14 ?_
      exact mj_ret (v := some (mI r15)) ⟨dX10_type_54, .int, rfl, rfl⟩ K
    · replace K := K.2 h
      exact mj_thr tn_Y10_type_29 K.1 K.2.1 K.2.2
  · replace K := K.2 h
    exact mj_thr tn_Y10_type_7 K.1 K.2.1 K.2.2
theorem B_Y10_wipe_0 {kb wb : Nat} {σ : mx_S} {Q : mx_R → Prop} {l0 : Nat} (K : ∃ (fs : List mx_V), sH σ (l0) = some (.inl (10, fs)) ∧ ∃ x2, fs[0]? = some (mR x2) ∧ ∃ (fs : List mx_V), sH σ (x2) = some (.inl (6, fs)) ∧ ∃ (r4 : Int) (σ3 : mx_S), mx_MS Y6_size [mR x2] σ (.inl (some (mI r4), σ3)) ∧ sK σ3 ≤ kb ∧ sW σ3 ≤ wb ∧ ∃ (fs : List mx_V), sH σ3 (l0) = some (.inl (10, fs)) ∧ ∃ x7, fs[0]? = some (mR x7) ∧ ∃ (fs : List mx_V), sH σ3 (x7) = some (.inl (6, fs)) ∧ ∃ (σ8 : mx_S), mx_MS Y6_empty [mR x7] σ3 (.inl (none, σ8)) ∧ sK σ8 ≤ kb ∧ sW σ8 ≤ wb ∧ Q (.inl (some (mI r4), σ8))) : mx_J Y10_wipe kb wb 0 [some (mR l0), none] [] σ Q := by
  refine mj_aload_n (k := 0) dX10_wipe_0 rfl rfl ?_
  obtain ⟨fs1, hffs1, x2, hxx2, K⟩ := K
  refine mj_get dX10_wipe_1 lf_Y10_wipe_12 hffs1 hxx2 ?_
  obtain ⟨fs5, hbfs5, K⟩ := K
  obtain ⟨r4, σ3, hMσ3, hkσ3, hwσ3, K⟩ := K
  refine mj_callV (As := []) (rest := []) (b := x2) dX10_wipe_4 k_Y10_wipe_65 rfl hbfs5 rfl (Nat.le_of_ble_eq_true rfl) hMσ3 hkσ3 hwσ3 ?_
  refine mj_istore_n (k := 1) (ls' := [some (mR l0), some (mI r4)]) dX10_wipe_7 rfl (by decide) rfl ?_
  refine mj_aload_n (k := 0) dX10_wipe_8 rfl rfl ?_
  obtain ⟨fs6, hffs6, x7, hxx7, K⟩ := K
  refine mj_get dX10_wipe_9 lf_Y10_wipe_12 hffs6 hxx7 ?_
  obtain ⟨fs9, hbfs9, K⟩ := K
  obtain ⟨σ8, hMσ8, hkσ8, hwσ8, K⟩ := K
  refine mj_callV (As := []) (rest := []) (b := x7) dX10_wipe_12 k_Y10_wipe_78 rfl hbfs9 rfl (Nat.le_of_ble_eq_true rfl) hMσ8 hkσ8 hwσ8 ?_
  refine mj_iload_n (k := 1) dX10_wipe_15 rfl rfl ?_
  exact mj_ret (v := some (mI r4)) ⟨dX10_wipe_16, .int, rfl, rfl⟩ K
theorem B_Y10_needPlainRow_0 {kb wb : Nat} {σ : mx_S} {Q : mx_R → Prop} {l0 : Nat} (K : ∃ (fs : List mx_V), sH σ (l0) = some (.inl (10, fs)) ∧ ∃ x2, fs[0]? = some (mR x2) ∧ ∃ (fs : List mx_V), sH σ (x2) = some (.inl (6, fs)) ∧ ∃ (r4 : Int) (σ3 : mx_S), mx_MS Y6_isPlain [mR x2] σ (.inl (some (mI r4), σ3)) ∧ sK σ3 ≤ kb ∧ sW σ3 ≤ wb ∧ (¬ r4 = (0 : Int) → Q (.inl (none, σ3))) ∧ (¬ (¬ r4 = (0 : Int)) → sK σ3 + 1 ≤ kb ∧ sW σ3 + 6 ≤ wb ∧ Q (.inr ("java/lang/UnsupportedOperationException", (sB σ3, sH σ3, sN σ3, sK σ3 + 1, sW σ3 + 6))))) : mx_J Y10_needPlainRow kb wb 0 [some (mR l0)] [] σ Q := by
  refine mj_aload_n (k := 0) dX10_needPlainRow_0 rfl rfl ?_
  obtain ⟨fs1, hffs1, x2, hxx2, K⟩ := K
  refine mj_get dX10_needPlainRow_1 lf_Y10_needPlainRow_12 hffs1 hxx2 ?_
  obtain ⟨fs5, hbfs5, K⟩ := K
  obtain ⟨r4, σ3, hMσ3, hkσ3, hwσ3, K⟩ := K
  refine mj_callV (As := []) (rest := []) (b := x2) dX10_needPlainRow_4 k_Y10_needPlainRow_402 rfl hbfs5 rfl (Nat.le_of_ble_eq_true rfl) hMσ3 hkσ3 hwσ3 ?_
  refine mj_if_ne (tgt := 21) dX10_needPlainRow_7 (by decide) ⟨fun h => ?_, fun h => ?_⟩
  · replace K := K.1 h
    exact mj_ret (v := none) ⟨dX10_needPlainRow_21, rfl⟩ K
  · replace K := K.2 h
    exact mj_thr tn_Y10_needPlainRow_10 K.1 K.2.1 K.2.2
theorem B_Y10_add_0 {kb wb : Nat} {σ : mx_S} {Q : mx_R → Prop} {l0 : Nat} (K : ∃ (fs : List mx_V), sH σ (l0) = some (.inl (10, fs)) ∧ ((∃ (σ1 : mx_S), mx_MS Y10_needPlainRow [mR l0] σ (.inl (none, σ1)) ∧ sK σ1 ≤ kb ∧ sW σ1 ≤ wb ∧ ∃ (fs : List mx_V), sH σ1 (l0) = some (.inl (10, fs)) ∧ ∃ x4, fs[1]? = some (mR x4) ∧ ∃ (fs : List mx_V), sH σ1 (x4) = some (.inl (2, fs)) ∧ ∃ (r6 : Int) (σ5 : mx_S), mx_MS Y2_hasRoom [mR x4] σ1 (.inl (some (mI r6), σ5)) ∧ sK σ5 ≤ kb ∧ sW σ5 ≤ wb ∧ (¬ r6 = (0 : Int) → ∃ (fs : List mx_V), sH σ5 (l0) = some (.inl (10, fs)) ∧ ∃ x9, fs[1]? = some (mR x9) ∧ ∃ (fs : List mx_V), sH σ5 (l0) = some (.inl (10, fs)) ∧ ∃ x11, fs[0]? = some (mR x11) ∧ ∃ (fs : List mx_V), sH σ5 (x9) = some (.inl (2, fs)) ∧ ∃ (r13 : Int) (σ12 : mx_S), mx_MS Y2_takeIn [mR x9, mR x11] σ5 (.inl (some (mI r13), σ12)) ∧ sK σ12 ≤ kb ∧ sW σ12 ≤ wb ∧ ∃ (fs : List mx_V), sH σ12 (l0) = some (.inl (10, fs)) ∧ ∃ x16, fs[0]? = some (mR x16) ∧ ∃ (fs : List mx_V), sH σ12 (x16) = some (.inl (6, fs)) ∧ ∃ (σ17 : mx_S), mx_MS Y6_empty [mR x16] σ12 (.inl (none, σ17)) ∧ sK σ17 ≤ kb ∧ sW σ17 ≤ wb ∧ ∃ (fs : List mx_V), sH σ17 (l0) = some (.inl (10, fs)) ∧ ∃ x20, fs[7]? = some (mI x20) ∧ ∃ (fs : List mx_V), sH σ17 (l0) = some (.inl (10, fs)) ∧ 7 < fs.length ∧ sB σ17 ≤ l0 ∧ ∀ σ22, σ22 = mx_wr σ17 (l0) (.inl (10, fs.set 7 (mI (mx_w (x20 + (1 : Int)))))) → Q (.inl (some (mI r13), σ22))) ∧ (¬ (¬ r6 = (0 : Int)) → sK σ5 + 1 ≤ kb ∧ sW σ5 + 6 ≤ wb ∧ Q (.inr ("java/lang/IllegalStateException", (sB σ5, sH σ5, sN σ5, sK σ5 + 1, sW σ5 + 6))))) ∨ (∃ (E23 : String) (σ24 : mx_S), mx_MS Y10_needPlainRow [mR l0] σ (.inr (E23, σ24)) ∧ sK σ24 ≤ kb ∧ sW σ24 ≤ wb ∧ Q (.inr (E23, σ24))))) : mx_J Y10_add kb wb 0 [some (mR l0), none] [] σ Q := by
  refine mj_aload_n (k := 0) dX10_add_0 rfl rfl ?_
  obtain ⟨fs2, hbfs2, K⟩ := K
  rcases K with ⟨σ1, hMσ1, hkσ1, hwσ1, K⟩ | ⟨E23, σ24, hMσ24, hkσ24, hwσ24, K⟩
  · refine mj_callV (As := []) (rest := []) (b := l0) dX10_add_1 k_Y10_add_81 rfl hbfs2 rfl (Nat.le_of_ble_eq_true rfl) hMσ1 hkσ1 hwσ1 ?_
    refine mj_aload_n (k := 0) dX10_add_4 rfl rfl ?_
    obtain ⟨fs3, hffs3, x4, hxx4, K⟩ := K
    refine mj_get dX10_add_5 lf_Y10_add_19 hffs3 hxx4 ?_
    obtain ⟨fs7, hbfs7, K⟩ := K
    obtain ⟨r6, σ5, hMσ5, hkσ5, hwσ5, K⟩ := K
    refine mj_callV (As := []) (rest := []) (b := x4) dX10_add_8 k_Y10_add_84 rfl hbfs7 rfl (Nat.le_of_ble_eq_true rfl) hMσ5 hkσ5 hwσ5 ?_
    refine mj_if_ne (tgt := 24) dX10_add_11 (by decide) ⟨fun h => ?_, fun h => ?_⟩
    · replace K := K.1 h
      refine mj_aload_n (k := 0) dX10_add_24 rfl rfl ?_
      obtain ⟨fs8, hffs8, x9, hxx9, K⟩ := K
      refine mj_get dX10_add_25 lf_Y10_add_19 hffs8 hxx9 ?_
      refine mj_aload_n (k := 0) dX10_add_28 rfl rfl ?_
      obtain ⟨fs10, hffs10, x11, hxx11, K⟩ := K
      refine mj_get dX10_add_29 lf_Y10_add_12 hffs10 hxx11 ?_
      obtain ⟨fs14, hbfs14, K⟩ := K
      obtain ⟨r13, σ12, hMσ12, hkσ12, hwσ12, K⟩ := K
      refine mj_callV (As := [mR x11]) (rest := []) (b := x9) dX10_add_32 k_Y10_add_90 rfl hbfs14 rfl (Nat.le_of_ble_eq_true rfl) hMσ12 hkσ12 hwσ12 ?_
      refine mj_istore_n (k := 1) (ls' := [some (mR l0), some (mI r13)]) dX10_add_35 rfl (by decide) rfl ?_
      refine mj_aload_n (k := 0) dX10_add_36 rfl rfl ?_
      obtain ⟨fs15, hffs15, x16, hxx16, K⟩ := K
      refine mj_get dX10_add_37 lf_Y10_add_12 hffs15 hxx16 ?_
      obtain ⟨fs18, hbfs18, K⟩ := K
      obtain ⟨σ17, hMσ17, hkσ17, hwσ17, K⟩ := K
      refine mj_callV (As := []) (rest := []) (b := x16) dX10_add_40 k_Y10_add_78 rfl hbfs18 rfl (Nat.le_of_ble_eq_true rfl) hMσ17 hkσ17 hwσ17 ?_
      refine mj_aload_n (k := 0) dX10_add_43 rfl rfl ?_
      refine mj_dup dX10_add_44 rfl ?_
      obtain ⟨fs19, hffs19, x20, hxx20, K⟩ := K
      refine mj_get dX10_add_45 lf_Y10_add_94 hffs19 hxx20 ?_
      refine mj_iconst dX10_add_48 ⟨by decide, by decide⟩ ?_
      refine mj_iadd dX10_add_49 ?_
      obtain ⟨fs21, hffs21, hlfs21, hbfs21, K⟩ := K
      replace K := K _ rfl
      refine mj_put dX10_add_50 pf_Y10_add_94 hffs21 hlfs21 hbfs21 ⟨rfl, rfl⟩ ?_
      generalize mx_wr σ17 (l0) (.inl (10, fs21.set 7 (mI (mx_w (x20 + (1 : Int)))))) = σ22 at K ⊢
      refine mj_iload_n (k := 1) dX10_add_53 rfl rfl ?_
      exact mj_ret (v := some (mI r13)) ⟨dX10_add_54, .int, rfl, rfl⟩ K
    · replace K := K.2 h
      exact mj_thr tn_Y10_add_14 K.1 K.2.1 K.2.2
  · exact mj_callVX_out (As := []) (rest := []) (b := l0) dX10_add_1 k_Y10_add_81 rfl hbfs2 rfl (Nat.le_of_ble_eq_true rfl) hMσ24 hkσ24 hwσ24 (fun z hz => by cases hz) K
theorem B_Y10_neededSlot_0 {kb wb : Nat} {σ : mx_S} {Q : mx_R → Prop} {l0 : Nat} {l1 : Int} (K : ∃ (fs : List mx_V), sH σ (l0) = some (.inl (8, fs)) ∧ ∃ (r2 : Int) (σ1 : mx_S), mx_MS Y8_slotOf [mR l0, mI l1] σ (.inl (some (mI r2), σ1)) ∧ sK σ1 ≤ kb ∧ sW σ1 ≤ wb ∧ (¬ r2 = (-1 : Int) → Q (.inl (some (mI r2), σ1))) ∧ (¬ (¬ r2 = (-1 : Int)) → sK σ1 + 1 ≤ kb ∧ sW σ1 + 6 ≤ wb ∧ Q (.inr ("java/lang/IndexOutOfBoundsException", (sB σ1, sH σ1, sN σ1, sK σ1 + 1, sW σ1 + 6))))) : mx_J Y10_neededSlot kb wb 0 [some (mR l0), some (mI l1), none] [] σ Q := by
  refine mj_aload_n (k := 0) dX10_neededSlot_0 rfl rfl ?_
  refine mj_iload_n (k := 1) dX10_neededSlot_1 rfl rfl ?_
  obtain ⟨fs3, hbfs3, K⟩ := K
  obtain ⟨r2, σ1, hMσ1, hkσ1, hwσ1, K⟩ := K
  refine mj_callV (As := [mI l1]) (rest := []) (b := l0) dX10_neededSlot_2 k_Y10_neededSlot_141 rfl hbfs3 rfl (Nat.le_of_ble_eq_true rfl) hMσ1 hkσ1 hwσ1 ?_
  refine mj_istore_n (k := 2) (ls' := [some (mR l0), some (mI l1), some (mI r2)]) dX10_neededSlot_5 rfl (by decide) rfl ?_
  refine mj_iload_n (k := 2) dX10_neededSlot_6 rfl rfl ?_
  refine mj_iconst dX10_neededSlot_7 ⟨by decide, by decide⟩ ?_
  refine mj_icmp_ne (tgt := 22) dX10_neededSlot_8 (by decide) ⟨fun h => ?_, fun h => ?_⟩
  · replace K := K.1 h
    refine mj_iload_n (k := 2) dX10_neededSlot_22 rfl rfl ?_
    exact mj_ret (v := some (mI r2)) ⟨dX10_neededSlot_23, .int, rfl, rfl⟩ K
  · replace K := K.2 h
    exact mj_thr tn_Y10_neededSlot_11 K.1 K.2.1 K.2.2
theorem B_Y10_insert_0 {kb wb : Nat} {σ : mx_S} {Q : mx_R → Prop} {l0 : Nat} {l1 : Int} {l2 : Int} (K : ∃ (fs : List mx_V), sH σ (l0) = some (.inl (10, fs)) ∧ ∃ x2, fs[1]? = some (mR x2) ∧ ∃ (fs : List mx_V), sH σ (x2) = some (.inl (2, fs)) ∧ ∃ (r4 : Nat) (σ3 : mx_S), mx_MS Y2_present [mR x2] σ (.inl (some (mR r4), σ3)) ∧ sK σ3 ≤ kb ∧ sW σ3 ≤ wb ∧ ∃ (fs : List mx_V), sH σ3 (r4) = some (.inl (9, fs)) ∧ ∃ (r7 : Nat) (σ6 : mx_S), mx_MS Y9_texts [mR r4] σ3 (.inl (some (mR r7), σ6)) ∧ sK σ6 ≤ kb ∧ sW σ6 ≤ wb ∧ ((∃ (r10 : Int) (σ9 : mx_S), mx_MS Y10_neededSlot [mR r7, mI l1] σ6 (.inl (some (mI r10), σ9)) ∧ sK σ9 ≤ kb ∧ sW σ9 ≤ wb ∧ ∃ (fs : List mx_V), sH σ9 (l0) = some (.inl (10, fs)) ∧ ((∃ (σ11 : mx_S), mx_MS Y10_needPlainRow [mR l0] σ9 (.inl (none, σ11)) ∧ sK σ11 ≤ kb ∧ sW σ11 ≤ wb ∧ ∃ (fs : List mx_V), sH σ11 (r7) = some (.inl (8, fs)) ∧ ∃ (r14 : Int) (σ13 : mx_S), mx_MS Y8_sizeAt [mR r7, mI r10] σ11 (.inl (some (mI r14), σ13)) ∧ sK σ13 ≤ kb ∧ sW σ13 ≤ wb ∧ (l2 < (0 : Int) → mx_J Y10_insert kb wb 55 [some (mR l0), some (mI l1), some (mI l2), some (mR r7), some (mI r10), some (mI r14)] [] σ13 Q) ∧ (¬ (l2 < (0 : Int)) → (r14 < l2 → mx_J Y10_insert kb wb 55 [some (mR l0), some (mI l1), some (mI l2), some (mR r7), some (mI r10), some (mI r14)] [] σ13 Q) ∧ (¬ (r14 < l2) → ∃ (fs : List mx_V), sH σ13 (l0) = some (.inl (10, fs)) ∧ ∃ x17, fs[0]? = some (mR x17) ∧ ∃ (fs : List mx_V), sH σ13 (x17) = some (.inl (6, fs)) ∧ ∃ (r19 : Int) (σ18 : mx_S), mx_MS Y6_size [mR x17] σ13 (.inl (some (mI r19), σ18)) ∧ sK σ18 ≤ kb ∧ sW σ18 ≤ wb ∧ (mx_w (r14 + r19) ≤ (40 : Int) → ∃ (fs : List mx_V), sH σ18 (l0) = some (.inl (10, fs)) ∧ ∃ x22, fs[1]? = some (mR x22) ∧ ∃ (fs : List mx_V), sH σ18 (l0) = some (.inl (10, fs)) ∧ ∃ x24, fs[0]? = some (mR x24) ∧ ∃ (fs : List mx_V), sH σ18 (x22) = some (.inl (2, fs)) ∧ ∃ (σ25 : mx_S), mx_MS Y2_widen [mR x22, mI r10, mI l2, mR x24] σ18 (.inl (none, σ25)) ∧ sK σ25 ≤ kb ∧ sW σ25 ≤ wb ∧ ∃ (fs : List mx_V), sH σ25 (l0) = some (.inl (10, fs)) ∧ ∃ x28, fs[0]? = some (mR x28) ∧ ∃ (fs : List mx_V), sH σ25 (x28) = some (.inl (6, fs)) ∧ ∃ (σ29 : mx_S), mx_MS Y6_empty [mR x28] σ25 (.inl (none, σ29)) ∧ sK σ29 ≤ kb ∧ sW σ29 ≤ wb ∧ ∃ (fs : List mx_V), sH σ29 (l0) = some (.inl (10, fs)) ∧ ∃ x32, fs[7]? = some (mI x32) ∧ ∃ (fs : List mx_V), sH σ29 (l0) = some (.inl (10, fs)) ∧ 7 < fs.length ∧ sB σ29 ≤ l0 ∧ ∀ σ34, σ34 = mx_wr σ29 (l0) (.inl (10, fs.set 7 (mI (mx_w (x32 + (1 : Int)))))) → ∃ (fs : List mx_V), sH σ34 (r7) = some (.inl (8, fs)) ∧ ∃ (r36 : Int) (σ35 : mx_S), mx_MS Y8_sizeAt [mR r7, mI r10] σ34 (.inl (some (mI r36), σ35)) ∧ sK σ35 ≤ kb ∧ sW σ35 ≤ wb ∧ Q (.inl (some (mI r36), σ35))) ∧ (¬ (mx_w (r14 + r19) ≤ (40 : Int)) → mx_J Y10_insert kb wb 55 [some (mR l0), some (mI l1), some (mI l2), some (mR r7), some (mI r10), some (mI r14)] [] σ18 Q)))) ∨ (∃ (E38 : String) (σ39 : mx_S), mx_MS Y10_needPlainRow [mR l0] σ9 (.inr (E38, σ39)) ∧ sK σ39 ≤ kb ∧ sW σ39 ≤ wb ∧ Q (.inr (E38, σ39))))) ∨ (∃ (E40 : String) (σ41 : mx_S), mx_MS Y10_neededSlot [mR r7, mI l1] σ6 (.inr (E40, σ41)) ∧ sK σ41 ≤ kb ∧ sW σ41 ≤ wb ∧ Q (.inr (E40, σ41))))) : mx_J Y10_insert kb wb 0 [some (mR l0), some (mI l1), some (mI l2), none, none, none] [] σ Q := by
  refine mj_aload_n (k := 0) dX10_insert_0 rfl rfl ?_
  obtain ⟨fs1, hffs1, x2, hxx2, K⟩ := K
  refine mj_get dX10_insert_1 lf_Y10_insert_19 hffs1 hxx2 ?_
  obtain ⟨fs5, hbfs5, K⟩ := K
  obtain ⟨r4, σ3, hMσ3, hkσ3, hwσ3, K⟩ := K
  refine mj_callV (As := []) (rest := []) (b := x2) dX10_insert_4 k_Y10_insert_98 rfl hbfs5 rfl (Nat.le_of_ble_eq_true rfl) hMσ3 hkσ3 hwσ3 ?_
  obtain ⟨fs8, hbfs8, K⟩ := K
  obtain ⟨r7, σ6, hMσ6, hkσ6, hwσ6, K⟩ := K
  refine mj_callV (As := []) (rest := []) (b := r4) dX10_insert_7 k_Y10_insert_102 rfl hbfs8 rfl (Nat.le_of_ble_eq_true rfl) hMσ6 hkσ6 hwσ6 ?_
  refine mj_astore_n (k := 3) (ls' := [some (mR l0), some (mI l1), some (mI l2), some (mR r7), none, none]) dX10_insert_10 rfl (by decide) rfl ?_
  refine mj_aload_n (k := 3) dX10_insert_11 rfl rfl ?_
  refine mj_iload_n (k := 1) dX10_insert_12 rfl rfl ?_
  rcases K with ⟨r10, σ9, hMσ9, hkσ9, hwσ9, K⟩ | ⟨E40, σ41, hMσ41, hkσ41, hwσ41, K⟩
  · refine mj_callS (As := [mR r7, mI l1]) (rest := []) dX10_insert_13 k_Y10_insert_108 rfl (Nat.le_of_ble_eq_true rfl) hMσ9 hkσ9 hwσ9 ?_
    refine mj_istore (k := 4) (ls' := [some (mR l0), some (mI l1), some (mI l2), some (mR r7), some (mI r10), none]) dX10_insert_16 (by decide) rfl ?_
    refine mj_aload_n (k := 0) dX10_insert_18 rfl rfl ?_
    obtain ⟨fs12, hbfs12, K⟩ := K
    rcases K with ⟨σ11, hMσ11, hkσ11, hwσ11, K⟩ | ⟨E38, σ39, hMσ39, hkσ39, hwσ39, K⟩
    · refine mj_callV (As := []) (rest := []) (b := l0) dX10_insert_19 k_Y10_insert_81 rfl hbfs12 rfl (Nat.le_of_ble_eq_true rfl) hMσ11 hkσ11 hwσ11 ?_
      refine mj_aload_n (k := 3) dX10_insert_22 rfl rfl ?_
      refine mj_iload (k := 4) dX10_insert_23 rfl ?_
      obtain ⟨fs15, hbfs15, K⟩ := K
      obtain ⟨r14, σ13, hMσ13, hkσ13, hwσ13, K⟩ := K
      refine mj_callV (As := [mI r10]) (rest := []) (b := r7) dX10_insert_25 k_Y10_insert_112 rfl hbfs15 rfl (Nat.le_of_ble_eq_true rfl) hMσ13 hkσ13 hwσ13 ?_
      refine mj_istore (k := 5) (ls' := [some (mR l0), some (mI l1), some (mI l2), some (mR r7), some (mI r10), some (mI r14)]) dX10_insert_28 (by decide) rfl ?_
      refine mj_iload_n (k := 2) dX10_insert_30 rfl rfl ?_
      refine mj_if_lt (tgt := 55) dX10_insert_31 (by decide) ⟨fun h => ?_, fun h => ?_⟩
      · replace K := K.1 h
        exact K
      · replace K := K.2 h
        refine mj_iload_n (k := 2) dX10_insert_34 rfl rfl ?_
        refine mj_iload (k := 5) dX10_insert_35 rfl ?_
        refine mj_icmp_gt (tgt := 55) dX10_insert_37 (by decide) ⟨fun h => ?_, fun h => ?_⟩
        · replace K := K.1 h
          exact K
        · replace K := K.2 h
          refine mj_iload (k := 5) dX10_insert_40 rfl ?_
          refine mj_aload_n (k := 0) dX10_insert_42 rfl rfl ?_
          obtain ⟨fs16, hffs16, x17, hxx17, K⟩ := K
          refine mj_get dX10_insert_43 lf_Y10_insert_12 hffs16 hxx17 ?_
          obtain ⟨fs20, hbfs20, K⟩ := K
          obtain ⟨r19, σ18, hMσ18, hkσ18, hwσ18, K⟩ := K
          refine mj_callV (As := []) (rest := [mI r14]) (b := x17) dX10_insert_46 k_Y10_insert_65 rfl hbfs20 rfl (Nat.le_of_ble_eq_true rfl) hMσ18 hkσ18 hwσ18 ?_
          refine mj_iadd dX10_insert_49 ?_
          refine mj_bipush (n := 40) dX10_insert_50 ⟨by decide, by decide⟩ (by decide) ?_
          refine mj_icmp_le (tgt := 65) dX10_insert_52 (by decide) ⟨fun h => ?_, fun h => ?_⟩
          · replace K := K.1 h
            refine mj_aload_n (k := 0) dX10_insert_65 rfl rfl ?_
            obtain ⟨fs21, hffs21, x22, hxx22, K⟩ := K
            refine mj_get dX10_insert_66 lf_Y10_insert_19 hffs21 hxx22 ?_
            refine mj_iload (k := 4) dX10_insert_69 rfl ?_
            refine mj_iload_n (k := 2) dX10_insert_71 rfl rfl ?_
            refine mj_aload_n (k := 0) dX10_insert_72 rfl rfl ?_
            obtain ⟨fs23, hffs23, x24, hxx24, K⟩ := K
            refine mj_get dX10_insert_73 lf_Y10_insert_12 hffs23 hxx24 ?_
            obtain ⟨fs26, hbfs26, K⟩ := K
            obtain ⟨σ25, hMσ25, hkσ25, hwσ25, K⟩ := K
            refine mj_callV (As := [mI r10, mI l2, mR x24]) (rest := []) (b := x22) dX10_insert_76 k_Y10_insert_120 rfl hbfs26 rfl (Nat.le_of_ble_eq_true rfl) hMσ25 hkσ25 hwσ25 ?_
            refine mj_aload_n (k := 0) dX10_insert_79 rfl rfl ?_
            obtain ⟨fs27, hffs27, x28, hxx28, K⟩ := K
            refine mj_get dX10_insert_80 lf_Y10_insert_12 hffs27 hxx28 ?_
            obtain ⟨fs30, hbfs30, K⟩ := K
            obtain ⟨σ29, hMσ29, hkσ29, hwσ29, K⟩ := K
            refine mj_callV (As := []) (rest := []) (b := x28) dX10_insert_83 k_Y10_insert_78 rfl hbfs30 rfl (Nat.le_of_ble_eq_true rfl) hMσ29 hkσ29 hwσ29 ?_
            refine mj_aload_n (k := 0) dX10_insert_86 rfl rfl ?_
            refine mj_dup dX10_insert_87 rfl ?_
            obtain ⟨fs31, hffs31, x32, hxx32, K⟩ := K
            refine mj_get dX10_insert_88 lf_Y10_insert_94 hffs31 hxx32 ?_
            refine mj_iconst dX10_insert_91 ⟨by decide, by decide⟩ ?_
            refine mj_iadd dX10_insert_92 ?_
            obtain ⟨fs33, hffs33, hlfs33, hbfs33, K⟩ := K
            replace K := K _ rfl
            refine mj_put dX10_insert_93 pf_Y10_insert_94 hffs33 hlfs33 hbfs33 ⟨rfl, rfl⟩ ?_
            generalize mx_wr σ29 (l0) (.inl (10, fs33.set 7 (mI (mx_w (x32 + (1 : Int)))))) = σ34 at K ⊢
            refine mj_aload_n (k := 3) dX10_insert_96 rfl rfl ?_
            refine mj_iload (k := 4) dX10_insert_97 rfl ?_
            obtain ⟨fs37, hbfs37, K⟩ := K
            obtain ⟨r36, σ35, hMσ35, hkσ35, hwσ35, K⟩ := K
            refine mj_callV (As := [mI r10]) (rest := []) (b := r7) dX10_insert_99 k_Y10_insert_112 rfl hbfs37 rfl (Nat.le_of_ble_eq_true rfl) hMσ35 hkσ35 hwσ35 ?_
            exact mj_ret (v := some (mI r36)) ⟨dX10_insert_102, .int, rfl, rfl⟩ K
          · replace K := K.2 h
            exact K
    · exact mj_callVX_out (As := []) (rest := []) (b := l0) dX10_insert_19 k_Y10_insert_81 rfl hbfs12 rfl (Nat.le_of_ble_eq_true rfl) hMσ39 hkσ39 hwσ39 (fun z hz => by cases hz) K
  · exact mj_callSX_out (As := [mR r7, mI l1]) (rest := []) dX10_insert_13 k_Y10_insert_108 rfl (Nat.le_of_ble_eq_true rfl) hMσ41 hkσ41 hwσ41 (fun z hz => by cases hz) K
theorem B_Y10_insert_55 {kb wb : Nat} {σ : mx_S} {Q : mx_R → Prop} {l0 : Nat} {l1 : Int} {l2 : Int} {l3 : Nat} {l4 : Int} {l5 : Int} (K : sK σ + 1 ≤ kb ∧ sW σ + 6 ≤ wb ∧ Q (.inr ("java/lang/IllegalArgumentException", (sB σ, sH σ, sN σ, sK σ + 1, sW σ + 6)))) : mx_J Y10_insert kb wb 55 [some (mR l0), some (mI l1), some (mI l2), some (mR l3), some (mI l4), some (mI l5)] [] σ Q := by
  exact mj_thr tn_Y10_insert_55 K.1 K.2.1 K.2.2
theorem B_Y10_neededView_0 {kb wb : Nat} {σ : mx_S} {Q : mx_R → Prop} {l0 : Nat} {l1 : Int} (K : ∃ (fs : List mx_V), sH σ (l0) = some (.inl (10, fs)) ∧ ∃ x2, fs[1]? = some (mR x2) ∧ ∃ (fs : List mx_V), sH σ (x2) = some (.inl (2, fs)) ∧ ∃ (r4 : Option Nat) (σ3 : mx_S), mx_MS Y2_viewOf [mR x2, mI l1] σ (.inl (some (Sum.inr (Sum.inl r4)), σ3)) ∧ sK σ3 ≤ kb ∧ sW σ3 ≤ wb ∧ (r4 = none → sK σ3 + 1 ≤ kb ∧ sW σ3 + 6 ≤ wb ∧ Q (.inr ("java/lang/IndexOutOfBoundsException", (sB σ3, sH σ3, sN σ3, sK σ3 + 1, sW σ3 + 6)))) ∧ (∀ a6 : Nat, r4 = some a6 → Q (.inl (some (mR a6), σ3)))) : mx_J Y10_neededView kb wb 0 [some (mR l0), some (mI l1), none] [] σ Q := by
  refine mj_aload_n (k := 0) dX10_neededView_0 rfl rfl ?_
  obtain ⟨fs1, hffs1, x2, hxx2, K⟩ := K
  refine mj_get dX10_neededView_1 lf_Y10_neededView_19 hffs1 hxx2 ?_
  refine mj_iload_n (k := 1) dX10_neededView_4 rfl rfl ?_
  obtain ⟨fs5, hbfs5, K⟩ := K
  obtain ⟨r4, σ3, hMσ3, hkσ3, hwσ3, K⟩ := K
  refine mj_callV (As := [mI l1]) (rest := []) (b := x2) dX10_neededView_5 k_Y10_neededView_390 rfl hbfs5 rfl (Nat.le_of_ble_eq_true rfl) hMσ3 hkσ3 hwσ3 ?_
  refine mj_astoreO_n (k := 2) (ls' := [some (mR l0), some (mI l1), some (Sum.inr (Sum.inl r4))]) dX10_neededView_8 rfl (by decide) rfl ?_
  refine mj_aloadO_n (k := 2) dX10_neededView_9 rfl rfl ?_
  refine mj_ifnonnull (tgt := 24) dX10_neededView_10 (by decide) ⟨fun h => ?_, fun h => ?_⟩
  · obtain ⟨a6, h⟩ := Option.ne_none_iff_exists'.mp h
    replace K := K.2 a6 h
    subst h
    refine mj_aload_n (k := 2) dX10_neededView_24 rfl rfl ?_
    exact mj_ret (v := some (mR a6)) ⟨dX10_neededView_25, _, rfl, Or.inl ⟨_, rfl⟩⟩ K
  · replace K := K.1 h
    subst h
    exact mj_thr tn_Y10_neededView_13 K.1 K.2.1 K.2.2
theorem B_Y10_documents_0 {kb wb : Nat} {σ : mx_S} {Q : mx_R → Prop} {l0 : Nat} {l1 : Int} (K : ∃ (fs : List mx_V), sH σ (l0) = some (.inl (10, fs)) ∧ ((∃ (r2 : Nat) (σ1 : mx_S), mx_MS Y10_neededView [mR l0, mI l1] σ (.inl (some (mR r2), σ1)) ∧ sK σ1 ≤ kb ∧ sW σ1 ≤ wb ∧ ∃ (fs : List mx_V), sH σ1 (r2) = some (.inl (9, fs)) ∧ ∃ (r5 : Nat) (σ4 : mx_S), mx_MS Y9_texts [mR r2] σ1 (.inl (some (mR r5), σ4)) ∧ sK σ4 ≤ kb ∧ sW σ4 ≤ wb ∧ ∃ (fs : List mx_V), sH σ4 (r5) = some (.inl (8, fs)) ∧ ∃ (r8 : Int) (σ7 : mx_S), mx_MS Y8_many [mR r5] σ4 (.inl (some (mI r8), σ7)) ∧ sK σ7 ≤ kb ∧ sW σ7 ≤ wb ∧ Q (.inl (some (mI r8), σ7))) ∨ (∃ (E10 : String) (σ11 : mx_S), mx_MS Y10_neededView [mR l0, mI l1] σ (.inr (E10, σ11)) ∧ sK σ11 ≤ kb ∧ sW σ11 ≤ wb ∧ Q (.inr (E10, σ11))))) : mx_J Y10_documents kb wb 0 [some (mR l0), some (mI l1)] [] σ Q := by
  refine mj_aload_n (k := 0) dX10_documents_0 rfl rfl ?_
  refine mj_iload_n (k := 1) dX10_documents_1 rfl rfl ?_
  obtain ⟨fs3, hbfs3, K⟩ := K
  rcases K with ⟨r2, σ1, hMσ1, hkσ1, hwσ1, K⟩ | ⟨E10, σ11, hMσ11, hkσ11, hwσ11, K⟩
  · refine mj_callV (As := [mI l1]) (rest := []) (b := l0) dX10_documents_2 k_Y10_documents_137 rfl hbfs3 rfl (Nat.le_of_ble_eq_true rfl) hMσ1 hkσ1 hwσ1 ?_
    obtain ⟨fs6, hbfs6, K⟩ := K
    obtain ⟨r5, σ4, hMσ4, hkσ4, hwσ4, K⟩ := K
    refine mj_callV (As := []) (rest := []) (b := r2) dX10_documents_5 k_Y10_documents_102 rfl hbfs6 rfl (Nat.le_of_ble_eq_true rfl) hMσ4 hkσ4 hwσ4 ?_
    obtain ⟨fs9, hbfs9, K⟩ := K
    obtain ⟨r8, σ7, hMσ7, hkσ7, hwσ7, K⟩ := K
    refine mj_callV (As := []) (rest := []) (b := r5) dX10_documents_8 k_Y10_documents_134 rfl hbfs9 rfl (Nat.le_of_ble_eq_true rfl) hMσ7 hkσ7 hwσ7 ?_
    exact mj_ret (v := some (mI r8)) ⟨dX10_documents_11, .int, rfl, rfl⟩ K
  · exact mj_callVX_out (As := [mI l1]) (rest := []) (b := l0) dX10_documents_2 k_Y10_documents_137 rfl hbfs3 rfl (Nat.le_of_ble_eq_true rfl) hMσ11 hkσ11 hwσ11 (fun z hz => by cases hz) K
theorem B_Y10_lengthOf_0 {kb wb : Nat} {σ : mx_S} {Q : mx_R → Prop} {l0 : Nat} {l1 : Int} {l2 : Int} (K : ∃ (fs : List mx_V), sH σ (l0) = some (.inl (10, fs)) ∧ ((∃ (r2 : Nat) (σ1 : mx_S), mx_MS Y10_neededView [mR l0, mI l1] σ (.inl (some (mR r2), σ1)) ∧ sK σ1 ≤ kb ∧ sW σ1 ≤ wb ∧ ∃ (fs : List mx_V), sH σ1 (r2) = some (.inl (9, fs)) ∧ ∃ (r5 : Nat) (σ4 : mx_S), mx_MS Y9_texts [mR r2] σ1 (.inl (some (mR r5), σ4)) ∧ sK σ4 ≤ kb ∧ sW σ4 ≤ wb ∧ ((∃ (r8 : Int) (σ7 : mx_S), mx_MS Y10_neededSlot [mR r5, mI l2] σ4 (.inl (some (mI r8), σ7)) ∧ sK σ7 ≤ kb ∧ sW σ7 ≤ wb ∧ ∃ (fs : List mx_V), sH σ7 (r5) = some (.inl (8, fs)) ∧ ∃ (r10 : Int) (σ9 : mx_S), mx_MS Y8_sizeAt [mR r5, mI r8] σ7 (.inl (some (mI r10), σ9)) ∧ sK σ9 ≤ kb ∧ sW σ9 ≤ wb ∧ Q (.inl (some (mI r10), σ9))) ∨ (∃ (E12 : String) (σ13 : mx_S), mx_MS Y10_neededSlot [mR r5, mI l2] σ4 (.inr (E12, σ13)) ∧ sK σ13 ≤ kb ∧ sW σ13 ≤ wb ∧ Q (.inr (E12, σ13))))) ∨ (∃ (E14 : String) (σ15 : mx_S), mx_MS Y10_neededView [mR l0, mI l1] σ (.inr (E14, σ15)) ∧ sK σ15 ≤ kb ∧ sW σ15 ≤ wb ∧ Q (.inr (E14, σ15))))) : mx_J Y10_lengthOf kb wb 0 [some (mR l0), some (mI l1), some (mI l2), none] [] σ Q := by
  refine mj_aload_n (k := 0) dX10_lengthOf_0 rfl rfl ?_
  refine mj_iload_n (k := 1) dX10_lengthOf_1 rfl rfl ?_
  obtain ⟨fs3, hbfs3, K⟩ := K
  rcases K with ⟨r2, σ1, hMσ1, hkσ1, hwσ1, K⟩ | ⟨E14, σ15, hMσ15, hkσ15, hwσ15, K⟩
  · refine mj_callV (As := [mI l1]) (rest := []) (b := l0) dX10_lengthOf_2 k_Y10_lengthOf_137 rfl hbfs3 rfl (Nat.le_of_ble_eq_true rfl) hMσ1 hkσ1 hwσ1 ?_
    obtain ⟨fs6, hbfs6, K⟩ := K
    obtain ⟨r5, σ4, hMσ4, hkσ4, hwσ4, K⟩ := K
    refine mj_callV (As := []) (rest := []) (b := r2) dX10_lengthOf_5 k_Y10_lengthOf_102 rfl hbfs6 rfl (Nat.le_of_ble_eq_true rfl) hMσ4 hkσ4 hwσ4 ?_
    refine mj_astore_n (k := 3) (ls' := [some (mR l0), some (mI l1), some (mI l2), some (mR r5)]) dX10_lengthOf_8 rfl (by decide) rfl ?_
    refine mj_aload_n (k := 3) dX10_lengthOf_9 rfl rfl ?_
    refine mj_aload_n (k := 3) dX10_lengthOf_10 rfl rfl ?_
    refine mj_iload_n (k := 2) dX10_lengthOf_11 rfl rfl ?_
    rcases K with ⟨r8, σ7, hMσ7, hkσ7, hwσ7, K⟩ | ⟨E12, σ13, hMσ13, hkσ13, hwσ13, K⟩
    · refine mj_callS (As := [mR r5, mI l2]) (rest := [mR r5]) dX10_lengthOf_12 k_Y10_lengthOf_108 rfl (Nat.le_of_ble_eq_true rfl) hMσ7 hkσ7 hwσ7 ?_
      obtain ⟨fs11, hbfs11, K⟩ := K
      obtain ⟨r10, σ9, hMσ9, hkσ9, hwσ9, K⟩ := K
      refine mj_callV (As := [mI r8]) (rest := []) (b := r5) dX10_lengthOf_15 k_Y10_lengthOf_112 rfl hbfs11 rfl (Nat.le_of_ble_eq_true rfl) hMσ9 hkσ9 hwσ9 ?_
      exact mj_ret (v := some (mI r10)) ⟨dX10_lengthOf_18, .int, rfl, rfl⟩ K
    · exact mj_callSX_out (As := [mR r5, mI l2]) (rest := [mR r5]) dX10_lengthOf_12 k_Y10_lengthOf_108 rfl (Nat.le_of_ble_eq_true rfl) hMσ13 hkσ13 hwσ13 (fun z hz => by cases hz) K
  · exact mj_callVX_out (As := [mI l1]) (rest := []) (b := l0) dX10_lengthOf_2 k_Y10_lengthOf_137 rfl hbfs3 rfl (Nat.le_of_ble_eq_true rfl) hMσ15 hkσ15 hwσ15 (fun z hz => by cases hz) K
theorem B_Y10_snapshot_0 {kb wb : Nat} {σ : mx_S} {Q : mx_R → Prop} {l0 : Nat} (K : ∃ (fs : List mx_V), sH σ (l0) = some (.inl (10, fs)) ∧ ∃ x2, fs[1]? = some (mR x2) ∧ ∃ (fs : List mx_V), sH σ (x2) = some (.inl (2, fs)) ∧ ∃ (r4 : Int) (σ3 : mx_S), mx_MS Y2_canTake [mR x2] σ (.inl (some (mI r4), σ3)) ∧ sK σ3 ≤ kb ∧ sW σ3 ≤ wb ∧ (¬ r4 = (0 : Int) → ∃ (fs : List mx_V), sH σ3 (l0) = some (.inl (10, fs)) ∧ ∃ x7, fs[1]? = some (mR x7) ∧ ∃ (fs : List mx_V), sH σ3 (x7) = some (.inl (2, fs)) ∧ ∃ (r9 : Int) (σ8 : mx_S), mx_MS Y2_take [mR x7] σ3 (.inl (some (mI r9), σ8)) ∧ sK σ8 ≤ kb ∧ sW σ8 ≤ wb ∧ ∃ (fs : List mx_V), sH σ8 (l0) = some (.inl (10, fs)) ∧ ∃ x12, fs[7]? = some (mI x12) ∧ ∃ (fs : List mx_V), sH σ8 (l0) = some (.inl (10, fs)) ∧ 7 < fs.length ∧ sB σ8 ≤ l0 ∧ ∀ σ14, σ14 = mx_wr σ8 (l0) (.inl (10, fs.set 7 (mI (mx_w (x12 + (1 : Int)))))) → Q (.inl (some (mI r9), σ14))) ∧ (¬ (¬ r4 = (0 : Int)) → sK σ3 + 1 ≤ kb ∧ sW σ3 + 6 ≤ wb ∧ Q (.inr ("java/lang/IllegalStateException", (sB σ3, sH σ3, sN σ3, sK σ3 + 1, sW σ3 + 6))))) : mx_J Y10_snapshot kb wb 0 [some (mR l0), none] [] σ Q := by
  refine mj_aload_n (k := 0) dX10_snapshot_0 rfl rfl ?_
  obtain ⟨fs1, hffs1, x2, hxx2, K⟩ := K
  refine mj_get dX10_snapshot_1 lf_Y10_snapshot_19 hffs1 hxx2 ?_
  obtain ⟨fs5, hbfs5, K⟩ := K
  obtain ⟨r4, σ3, hMσ3, hkσ3, hwσ3, K⟩ := K
  refine mj_callV (As := []) (rest := []) (b := x2) dX10_snapshot_4 k_Y10_snapshot_152 rfl hbfs5 rfl (Nat.le_of_ble_eq_true rfl) hMσ3 hkσ3 hwσ3 ?_
  refine mj_if_ne (tgt := 20) dX10_snapshot_7 (by decide) ⟨fun h => ?_, fun h => ?_⟩
  · replace K := K.1 h
    refine mj_aload_n (k := 0) dX10_snapshot_20 rfl rfl ?_
    obtain ⟨fs6, hffs6, x7, hxx7, K⟩ := K
    refine mj_get dX10_snapshot_21 lf_Y10_snapshot_19 hffs6 hxx7 ?_
    obtain ⟨fs10, hbfs10, K⟩ := K
    obtain ⟨r9, σ8, hMσ8, hkσ8, hwσ8, K⟩ := K
    refine mj_callV (As := []) (rest := []) (b := x7) dX10_snapshot_24 k_Y10_snapshot_157 rfl hbfs10 rfl (Nat.le_of_ble_eq_true rfl) hMσ8 hkσ8 hwσ8 ?_
    refine mj_istore_n (k := 1) (ls' := [some (mR l0), some (mI r9)]) dX10_snapshot_27 rfl (by decide) rfl ?_
    refine mj_aload_n (k := 0) dX10_snapshot_28 rfl rfl ?_
    refine mj_dup dX10_snapshot_29 rfl ?_
    obtain ⟨fs11, hffs11, x12, hxx12, K⟩ := K
    refine mj_get dX10_snapshot_30 lf_Y10_snapshot_94 hffs11 hxx12 ?_
    refine mj_iconst dX10_snapshot_33 ⟨by decide, by decide⟩ ?_
    refine mj_iadd dX10_snapshot_34 ?_
    obtain ⟨fs13, hffs13, hlfs13, hbfs13, K⟩ := K
    replace K := K _ rfl
    refine mj_put dX10_snapshot_35 pf_Y10_snapshot_94 hffs13 hlfs13 hbfs13 ⟨rfl, rfl⟩ ?_
    generalize mx_wr σ8 (l0) (.inl (10, fs13.set 7 (mI (mx_w (x12 + (1 : Int)))))) = σ14 at K ⊢
    refine mj_iload_n (k := 1) dX10_snapshot_38 rfl rfl ?_
    exact mj_ret (v := some (mI r9)) ⟨dX10_snapshot_39, .int, rfl, rfl⟩ K
  · replace K := K.2 h
    exact mj_thr tn_Y10_snapshot_10 K.1 K.2.1 K.2.2
theorem B_Y10_orderedView_0 {kb wb : Nat} {σ : mx_S} {Q : mx_R → Prop} {l0 : Nat} {l1 : Int} (K : ∃ (fs : List mx_V), sH σ (l0) = some (.inl (10, fs)) ∧ ((∃ (r2 : Nat) (σ1 : mx_S), mx_MS Y10_neededView [mR l0, mI l1] σ (.inl (some (mR r2), σ1)) ∧ sK σ1 ≤ kb ∧ sW σ1 ≤ wb ∧ ∃ (fs : List mx_V), sH σ1 (r2) = some (.inl (9, fs)) ∧ ∃ (σ4 : mx_S), mx_MS Y9_putInOrder [mR r2] σ1 (.inl (none, σ4)) ∧ sK σ4 ≤ kb ∧ sW σ4 ≤ wb ∧ Q (.inl (some (mR r2), σ4))) ∨ (∃ (E6 : String) (σ7 : mx_S), mx_MS Y10_neededView [mR l0, mI l1] σ (.inr (E6, σ7)) ∧ sK σ7 ≤ kb ∧ sW σ7 ≤ wb ∧ Q (.inr (E6, σ7))))) : mx_J Y10_orderedView kb wb 0 [some (mR l0), some (mI l1), none] [] σ Q := by
  refine mj_aload_n (k := 0) dX10_orderedView_0 rfl rfl ?_
  refine mj_iload_n (k := 1) dX10_orderedView_1 rfl rfl ?_
  obtain ⟨fs3, hbfs3, K⟩ := K
  rcases K with ⟨r2, σ1, hMσ1, hkσ1, hwσ1, K⟩ | ⟨E6, σ7, hMσ7, hkσ7, hwσ7, K⟩
  · refine mj_callV (As := [mI l1]) (rest := []) (b := l0) dX10_orderedView_2 k_Y10_orderedView_137 rfl hbfs3 rfl (Nat.le_of_ble_eq_true rfl) hMσ1 hkσ1 hwσ1 ?_
    refine mj_astore_n (k := 2) (ls' := [some (mR l0), some (mI l1), some (mR r2)]) dX10_orderedView_5 rfl (by decide) rfl ?_
    refine mj_aload_n (k := 2) dX10_orderedView_6 rfl rfl ?_
    obtain ⟨fs5, hbfs5, K⟩ := K
    obtain ⟨σ4, hMσ4, hkσ4, hwσ4, K⟩ := K
    refine mj_callV (As := []) (rest := []) (b := r2) dX10_orderedView_7 k_Y10_orderedView_395 rfl hbfs5 rfl (Nat.le_of_ble_eq_true rfl) hMσ4 hkσ4 hwσ4 ?_
    refine mj_aload_n (k := 2) dX10_orderedView_10 rfl rfl ?_
    exact mj_ret (v := some (mR r2)) ⟨dX10_orderedView_11, _, rfl, Or.inl ⟨_, rfl⟩⟩ K
  · exact mj_callVX_out (As := [mI l1]) (rest := []) (b := l0) dX10_orderedView_2 k_Y10_orderedView_137 rfl hbfs3 rfl (Nat.le_of_ble_eq_true rfl) hMσ7 hkσ7 hwσ7 (fun z hz => by cases hz) K
theorem B_Y10_needRank_0 {kb wb : Nat} {σ : mx_S} {Q : mx_R → Prop} {l0 : Nat} {l1 : Int} (K : (l1 < (0 : Int) → mx_J Y10_needRank kb wb 15 [some (mR l0), some (mI l1)] [] σ Q) ∧ (¬ (l1 < (0 : Int)) → ∃ (fs : List mx_V), sH σ (l0) = some (.inl (9, fs)) ∧ ∃ (r2 : Nat) (σ1 : mx_S), mx_MS Y9_texts [mR l0] σ (.inl (some (mR r2), σ1)) ∧ sK σ1 ≤ kb ∧ sW σ1 ≤ wb ∧ ∃ (fs : List mx_V), sH σ1 (r2) = some (.inl (8, fs)) ∧ ∃ (r5 : Int) (σ4 : mx_S), mx_MS Y8_places [mR r2] σ1 (.inl (some (mI r5), σ4)) ∧ sK σ4 ≤ kb ∧ sW σ4 ≤ wb ∧ (l1 < r5 → Q (.inl (none, σ4))) ∧ (¬ (l1 < r5) → mx_J Y10_needRank kb wb 15 [some (mR l0), some (mI l1)] [] σ4 Q))) : mx_J Y10_needRank kb wb 0 [some (mR l0), some (mI l1)] [] σ Q := by
  refine mj_iload_n (k := 1) dX10_needRank_0 rfl rfl ?_
  refine mj_if_lt (tgt := 15) dX10_needRank_1 (by decide) ⟨fun h => ?_, fun h => ?_⟩
  · replace K := K.1 h
    exact K
  · replace K := K.2 h
    refine mj_iload_n (k := 1) dX10_needRank_4 rfl rfl ?_
    refine mj_aload_n (k := 0) dX10_needRank_5 rfl rfl ?_
    obtain ⟨fs3, hbfs3, K⟩ := K
    obtain ⟨r2, σ1, hMσ1, hkσ1, hwσ1, K⟩ := K
    refine mj_callV (As := []) (rest := [mI l1]) (b := l0) dX10_needRank_6 k_Y10_needRank_102 rfl hbfs3 rfl (Nat.le_of_ble_eq_true rfl) hMσ1 hkσ1 hwσ1 ?_
    obtain ⟨fs6, hbfs6, K⟩ := K
    obtain ⟨r5, σ4, hMσ4, hkσ4, hwσ4, K⟩ := K
    refine mj_callV (As := []) (rest := [mI l1]) (b := r2) dX10_needRank_9 k_Y10_needRank_215 rfl hbfs6 rfl (Nat.le_of_ble_eq_true rfl) hMσ4 hkσ4 hwσ4 ?_
    refine mj_icmp_lt (tgt := 25) dX10_needRank_12 (by decide) ⟨fun h => ?_, fun h => ?_⟩
    · replace K := K.1 h
      exact mj_ret (v := none) ⟨dX10_needRank_25, rfl⟩ K
    · replace K := K.2 h
      exact K
theorem B_Y10_needRank_15 {kb wb : Nat} {σ : mx_S} {Q : mx_R → Prop} {l0 : Nat} {l1 : Int} (K : sK σ + 1 ≤ kb ∧ sW σ + 6 ≤ wb ∧ Q (.inr ("java/util/NoSuchElementException", (sB σ, sH σ, sN σ, sK σ + 1, sW σ + 6)))) : mx_J Y10_needRank kb wb 15 [some (mR l0), some (mI l1)] [] σ Q := by
  exact mj_thr tn_Y10_needRank_15 K.1 K.2.1 K.2.2
theorem B_Y10_suffixAt_0 {kb wb : Nat} {σ : mx_S} {Q : mx_R → Prop} {l0 : Nat} {l1 : Int} {l2 : Int} {l3 : Int} (K : ∃ (fs : List mx_V), sH σ (l0) = some (.inl (10, fs)) ∧ ((∃ (r2 : Nat) (σ1 : mx_S), mx_MS Y10_orderedView [mR l0, mI l1] σ (.inl (some (mR r2), σ1)) ∧ sK σ1 ≤ kb ∧ sW σ1 ≤ wb ∧ ((∃ (σ4 : mx_S), mx_MS Y10_needRank [mR r2, mI l2] σ1 (.inl (none, σ4)) ∧ sK σ4 ≤ kb ∧ sW σ4 ≤ wb ∧ (¬ l3 = (100 : Int) → (¬ l3 = (112 : Int) → (¬ l3 = (108 : Int) → sK σ4 + 1 ≤ kb ∧ sW σ4 + 6 ≤ wb ∧ Q (.inr ("java/lang/IllegalArgumentException", (sB σ4, sH σ4, sN σ4, sK σ4 + 1, sW σ4 + 6)))) ∧ (¬ (¬ l3 = (108 : Int)) → ∃ (fs : List mx_V), sH σ4 (r2) = some (.inl (9, fs)) ∧ ∃ (r6 : Int) (σ5 : mx_S), mx_MS Y9_commonAt [mR r2, mI l2] σ4 (.inl (some (mI r6), σ5)) ∧ sK σ5 ≤ kb ∧ sW σ5 ≤ wb ∧ Q (.inl (some (mI r6), σ5)))) ∧ (¬ (¬ l3 = (112 : Int)) → ∃ (fs : List mx_V), sH σ4 (r2) = some (.inl (9, fs)) ∧ ∃ (r9 : Int) (σ8 : mx_S), mx_MS Y9_placeAt [mR r2, mI l2] σ4 (.inl (some (mI r9), σ8)) ∧ sK σ8 ≤ kb ∧ sW σ8 ≤ wb ∧ Q (.inl (some (mI r9), σ8)))) ∧ (¬ (¬ l3 = (100 : Int)) → ∃ (fs : List mx_V), sH σ4 (r2) = some (.inl (9, fs)) ∧ ∃ (r12 : Nat) (σ11 : mx_S), mx_MS Y9_texts [mR r2] σ4 (.inl (some (mR r12), σ11)) ∧ sK σ11 ≤ kb ∧ sW σ11 ≤ wb ∧ ∃ (fs : List mx_V), sH σ11 (r2) = some (.inl (9, fs)) ∧ ∃ (r15 : Int) (σ14 : mx_S), mx_MS Y9_slotAt [mR r2, mI l2] σ11 (.inl (some (mI r15), σ14)) ∧ sK σ14 ≤ kb ∧ sW σ14 ≤ wb ∧ ∃ (fs : List mx_V), sH σ14 (r12) = some (.inl (8, fs)) ∧ ∃ (r18 : Int) (σ17 : mx_S), mx_MS Y8_numberAt [mR r12, mI r15] σ14 (.inl (some (mI r18), σ17)) ∧ sK σ17 ≤ kb ∧ sW σ17 ≤ wb ∧ Q (.inl (some (mI r18), σ17)))) ∨ (∃ (E20 : String) (σ21 : mx_S), mx_MS Y10_needRank [mR r2, mI l2] σ1 (.inr (E20, σ21)) ∧ sK σ21 ≤ kb ∧ sW σ21 ≤ wb ∧ Q (.inr (E20, σ21))))) ∨ (∃ (E22 : String) (σ23 : mx_S), mx_MS Y10_orderedView [mR l0, mI l1] σ (.inr (E22, σ23)) ∧ sK σ23 ≤ kb ∧ sW σ23 ≤ wb ∧ Q (.inr (E22, σ23))))) : mx_J Y10_suffixAt kb wb 0 [some (mR l0), some (mI l1), some (mI l2), some (mI l3), none] [] σ Q := by
  refine mj_aload_n (k := 0) dX10_suffixAt_0 rfl rfl ?_
  refine mj_iload_n (k := 1) dX10_suffixAt_1 rfl rfl ?_
  obtain ⟨fs3, hbfs3, K⟩ := K
  rcases K with ⟨r2, σ1, hMσ1, hkσ1, hwσ1, K⟩ | ⟨E22, σ23, hMσ23, hkσ23, hwσ23, K⟩
  · refine mj_callV (As := [mI l1]) (rest := []) (b := l0) dX10_suffixAt_2 k_Y10_suffixAt_178 rfl hbfs3 rfl (Nat.le_of_ble_eq_true rfl) hMσ1 hkσ1 hwσ1 ?_
    refine mj_astore (k := 4) (ls' := [some (mR l0), some (mI l1), some (mI l2), some (mI l3), some (mR r2)]) dX10_suffixAt_5 (by decide) rfl ?_
    refine mj_aload (k := 4) dX10_suffixAt_7 rfl ?_
    refine mj_iload_n (k := 2) dX10_suffixAt_9 rfl rfl ?_
    rcases K with ⟨σ4, hMσ4, hkσ4, hwσ4, K⟩ | ⟨E20, σ21, hMσ21, hkσ21, hwσ21, K⟩
    · refine mj_callS (As := [mR r2, mI l2]) (rest := []) dX10_suffixAt_10 k_Y10_suffixAt_181 rfl (Nat.le_of_ble_eq_true rfl) hMσ4 hkσ4 hwσ4 ?_
      refine mj_iload_n (k := 3) dX10_suffixAt_13 rfl rfl ?_
      refine mj_bipush (n := 100) dX10_suffixAt_14 ⟨by decide, by decide⟩ (by decide) ?_
      refine mj_icmp_ne (tgt := 34) dX10_suffixAt_16 (by decide) ⟨fun h => ?_, fun h => ?_⟩
      · replace K := K.1 h
        refine mj_iload_n (k := 3) dX10_suffixAt_34 rfl rfl ?_
        refine mj_bipush (n := 112) dX10_suffixAt_35 ⟨by decide, by decide⟩ (by decide) ?_
        refine mj_icmp_ne (tgt := 47) dX10_suffixAt_37 (by decide) ⟨fun h => ?_, fun h => ?_⟩
        · replace K := K.1 h
          refine mj_iload_n (k := 3) dX10_suffixAt_47 rfl rfl ?_
          refine mj_bipush (n := 108) dX10_suffixAt_48 ⟨by decide, by decide⟩ (by decide) ?_
          refine mj_icmp_ne (tgt := 60) dX10_suffixAt_50 (by decide) ⟨fun h => ?_, fun h => ?_⟩
          · replace K := K.1 h
            exact mj_thr tn_Y10_suffixAt_60 K.1 K.2.1 K.2.2
          · replace K := K.2 h
            refine mj_aload (k := 4) dX10_suffixAt_53 rfl ?_
            refine mj_iload_n (k := 2) dX10_suffixAt_55 rfl rfl ?_
            obtain ⟨fs7, hbfs7, K⟩ := K
            obtain ⟨r6, σ5, hMσ5, hkσ5, hwσ5, K⟩ := K
            refine mj_callV (As := [mI l2]) (rest := []) (b := r2) dX10_suffixAt_56 k_Y10_suffixAt_194 rfl hbfs7 rfl (Nat.le_of_ble_eq_true rfl) hMσ5 hkσ5 hwσ5 ?_
            exact mj_ret (v := some (mI r6)) ⟨dX10_suffixAt_59, .int, rfl, rfl⟩ K
        · replace K := K.2 h
          refine mj_aload (k := 4) dX10_suffixAt_40 rfl ?_
          refine mj_iload_n (k := 2) dX10_suffixAt_42 rfl rfl ?_
          obtain ⟨fs10, hbfs10, K⟩ := K
          obtain ⟨r9, σ8, hMσ8, hkσ8, hwσ8, K⟩ := K
          refine mj_callV (As := [mI l2]) (rest := []) (b := r2) dX10_suffixAt_43 k_Y10_suffixAt_191 rfl hbfs10 rfl (Nat.le_of_ble_eq_true rfl) hMσ8 hkσ8 hwσ8 ?_
          exact mj_ret (v := some (mI r9)) ⟨dX10_suffixAt_46, .int, rfl, rfl⟩ K
      · replace K := K.2 h
        refine mj_aload (k := 4) dX10_suffixAt_19 rfl ?_
        obtain ⟨fs13, hbfs13, K⟩ := K
        obtain ⟨r12, σ11, hMσ11, hkσ11, hwσ11, K⟩ := K
        refine mj_callV (As := []) (rest := []) (b := r2) dX10_suffixAt_21 k_Y10_suffixAt_102 rfl hbfs13 rfl (Nat.le_of_ble_eq_true rfl) hMσ11 hkσ11 hwσ11 ?_
        refine mj_aload (k := 4) dX10_suffixAt_24 rfl ?_
        refine mj_iload_n (k := 2) dX10_suffixAt_26 rfl rfl ?_
        obtain ⟨fs16, hbfs16, K⟩ := K
        obtain ⟨r15, σ14, hMσ14, hkσ14, hwσ14, K⟩ := K
        refine mj_callV (As := [mI l2]) (rest := [mR r12]) (b := r2) dX10_suffixAt_27 k_Y10_suffixAt_185 rfl hbfs16 rfl (Nat.le_of_ble_eq_true rfl) hMσ14 hkσ14 hwσ14 ?_
        obtain ⟨fs19, hbfs19, K⟩ := K
        obtain ⟨r18, σ17, hMσ17, hkσ17, hwσ17, K⟩ := K
        refine mj_callV (As := [mI r15]) (rest := []) (b := r12) dX10_suffixAt_30 k_Y10_suffixAt_188 rfl hbfs19 rfl (Nat.le_of_ble_eq_true rfl) hMσ17 hkσ17 hwσ17 ?_
        exact mj_ret (v := some (mI r18)) ⟨dX10_suffixAt_33, .int, rfl, rfl⟩ K
    · exact mj_callSX_out (As := [mR r2, mI l2]) (rest := []) dX10_suffixAt_10 k_Y10_suffixAt_181 rfl (Nat.le_of_ble_eq_true rfl) hMσ21 hkσ21 hwσ21 (fun z hz => by cases hz) K
  · exact mj_callVX_out (As := [mI l1]) (rest := []) (b := l0) dX10_suffixAt_2 k_Y10_suffixAt_178 rfl hbfs3 rfl (Nat.le_of_ble_eq_true rfl) hMσ23 hkσ23 hwσ23 (fun z hz => by cases hz) K
theorem B_Y10_needPlace_0 {kb wb : Nat} {σ : mx_S} {Q : mx_R → Prop} {l0 : Nat} {l1 : Int} {l2 : Int} (K : (l2 < (0 : Int) → mx_J Y10_needPlace kb wb 13 [some (mR l0), some (mI l1), some (mI l2)] [] σ Q) ∧ (¬ (l2 < (0 : Int)) → ∃ (fs : List mx_V), sH σ (l0) = some (.inl (8, fs)) ∧ ∃ (r2 : Int) (σ1 : mx_S), mx_MS Y8_sizeAt [mR l0, mI l1] σ (.inl (some (mI r2), σ1)) ∧ sK σ1 ≤ kb ∧ sW σ1 ≤ wb ∧ (l2 < r2 → Q (.inl (none, σ1))) ∧ (¬ (l2 < r2) → mx_J Y10_needPlace kb wb 13 [some (mR l0), some (mI l1), some (mI l2)] [] σ1 Q))) : mx_J Y10_needPlace kb wb 0 [some (mR l0), some (mI l1), some (mI l2)] [] σ Q := by
  refine mj_iload_n (k := 2) dX10_needPlace_0 rfl rfl ?_
  refine mj_if_lt (tgt := 13) dX10_needPlace_1 (by decide) ⟨fun h => ?_, fun h => ?_⟩
  · replace K := K.1 h
    exact K
  · replace K := K.2 h
    refine mj_iload_n (k := 2) dX10_needPlace_4 rfl rfl ?_
    refine mj_aload_n (k := 0) dX10_needPlace_5 rfl rfl ?_
    refine mj_iload_n (k := 1) dX10_needPlace_6 rfl rfl ?_
    obtain ⟨fs3, hbfs3, K⟩ := K
    obtain ⟨r2, σ1, hMσ1, hkσ1, hwσ1, K⟩ := K
    refine mj_callV (As := [mI l1]) (rest := [mI l2]) (b := l0) dX10_needPlace_7 k_Y10_needPlace_112 rfl hbfs3 rfl (Nat.le_of_ble_eq_true rfl) hMσ1 hkσ1 hwσ1 ?_
    refine mj_icmp_lt (tgt := 24) dX10_needPlace_10 (by decide) ⟨fun h => ?_, fun h => ?_⟩
    · replace K := K.1 h
      exact mj_ret (v := none) ⟨dX10_needPlace_24, rfl⟩ K
    · replace K := K.2 h
      exact K
theorem B_Y10_needPlace_13 {kb wb : Nat} {σ : mx_S} {Q : mx_R → Prop} {l0 : Nat} {l1 : Int} {l2 : Int} (K : sK σ + 1 ≤ kb ∧ sW σ + 6 ≤ wb ∧ Q (.inr ("java/util/NoSuchElementException", (sB σ, sH σ, sN σ, sK σ + 1, sW σ + 6)))) : mx_J Y10_needPlace kb wb 13 [some (mR l0), some (mI l1), some (mI l2)] [] σ Q := by
  exact mj_thr tn_Y10_needPlace_13 K.1 K.2.1 K.2.2
theorem B_Y10_rankOf_0 {kb wb : Nat} {σ : mx_S} {Q : mx_R → Prop} {l0 : Nat} {l1 : Int} {l2 : Int} {l3 : Int} (K : ∃ (fs : List mx_V), sH σ (l0) = some (.inl (10, fs)) ∧ ((∃ (r2 : Nat) (σ1 : mx_S), mx_MS Y10_orderedView [mR l0, mI l1] σ (.inl (some (mR r2), σ1)) ∧ sK σ1 ≤ kb ∧ sW σ1 ≤ wb ∧ ∃ (fs : List mx_V), sH σ1 (r2) = some (.inl (9, fs)) ∧ ∃ (r5 : Nat) (σ4 : mx_S), mx_MS Y9_texts [mR r2] σ1 (.inl (some (mR r5), σ4)) ∧ sK σ4 ≤ kb ∧ sW σ4 ≤ wb ∧ ((∃ (r8 : Int) (σ7 : mx_S), mx_MS Y10_neededSlot [mR r5, mI l2] σ4 (.inl (some (mI r8), σ7)) ∧ sK σ7 ≤ kb ∧ sW σ7 ≤ wb ∧ ∃ (fs : List mx_V), sH σ7 (r2) = some (.inl (9, fs)) ∧ ∃ (r10 : Nat) (σ9 : mx_S), mx_MS Y9_texts [mR r2] σ7 (.inl (some (mR r10), σ9)) ∧ sK σ9 ≤ kb ∧ sW σ9 ≤ wb ∧ ((∃ (σ12 : mx_S), mx_MS Y10_needPlace [mR r10, mI r8, mI l3] σ9 (.inl (none, σ12)) ∧ sK σ12 ≤ kb ∧ sW σ12 ≤ wb ∧ ∃ (fs : List mx_V), sH σ12 (r2) = some (.inl (9, fs)) ∧ ∃ (r14 : Int) (σ13 : mx_S), mx_MS Y9_rankAt [mR r2, mI r8, mI l3] σ12 (.inl (some (mI r14), σ13)) ∧ sK σ13 ≤ kb ∧ sW σ13 ≤ wb ∧ Q (.inl (some (mI r14), σ13))) ∨ (∃ (E16 : String) (σ17 : mx_S), mx_MS Y10_needPlace [mR r10, mI r8, mI l3] σ9 (.inr (E16, σ17)) ∧ sK σ17 ≤ kb ∧ sW σ17 ≤ wb ∧ Q (.inr (E16, σ17))))) ∨ (∃ (E18 : String) (σ19 : mx_S), mx_MS Y10_neededSlot [mR r5, mI l2] σ4 (.inr (E18, σ19)) ∧ sK σ19 ≤ kb ∧ sW σ19 ≤ wb ∧ Q (.inr (E18, σ19))))) ∨ (∃ (E20 : String) (σ21 : mx_S), mx_MS Y10_orderedView [mR l0, mI l1] σ (.inr (E20, σ21)) ∧ sK σ21 ≤ kb ∧ sW σ21 ≤ wb ∧ Q (.inr (E20, σ21))))) : mx_J Y10_rankOf kb wb 0 [some (mR l0), some (mI l1), some (mI l2), some (mI l3), none, none] [] σ Q := by
  refine mj_aload_n (k := 0) dX10_rankOf_0 rfl rfl ?_
  refine mj_iload_n (k := 1) dX10_rankOf_1 rfl rfl ?_
  obtain ⟨fs3, hbfs3, K⟩ := K
  rcases K with ⟨r2, σ1, hMσ1, hkσ1, hwσ1, K⟩ | ⟨E20, σ21, hMσ21, hkσ21, hwσ21, K⟩
  · refine mj_callV (As := [mI l1]) (rest := []) (b := l0) dX10_rankOf_2 k_Y10_rankOf_178 rfl hbfs3 rfl (Nat.le_of_ble_eq_true rfl) hMσ1 hkσ1 hwσ1 ?_
    refine mj_astore (k := 4) (ls' := [some (mR l0), some (mI l1), some (mI l2), some (mI l3), some (mR r2), none]) dX10_rankOf_5 (by decide) rfl ?_
    refine mj_aload (k := 4) dX10_rankOf_7 rfl ?_
    obtain ⟨fs6, hbfs6, K⟩ := K
    obtain ⟨r5, σ4, hMσ4, hkσ4, hwσ4, K⟩ := K
    refine mj_callV (As := []) (rest := []) (b := r2) dX10_rankOf_9 k_Y10_rankOf_102 rfl hbfs6 rfl (Nat.le_of_ble_eq_true rfl) hMσ4 hkσ4 hwσ4 ?_
    refine mj_iload_n (k := 2) dX10_rankOf_12 rfl rfl ?_
    rcases K with ⟨r8, σ7, hMσ7, hkσ7, hwσ7, K⟩ | ⟨E18, σ19, hMσ19, hkσ19, hwσ19, K⟩
    · refine mj_callS (As := [mR r5, mI l2]) (rest := []) dX10_rankOf_13 k_Y10_rankOf_108 rfl (Nat.le_of_ble_eq_true rfl) hMσ7 hkσ7 hwσ7 ?_
      refine mj_istore (k := 5) (ls' := [some (mR l0), some (mI l1), some (mI l2), some (mI l3), some (mR r2), some (mI r8)]) dX10_rankOf_16 (by decide) rfl ?_
      refine mj_aload (k := 4) dX10_rankOf_18 rfl ?_
      obtain ⟨fs11, hbfs11, K⟩ := K
      obtain ⟨r10, σ9, hMσ9, hkσ9, hwσ9, K⟩ := K
      refine mj_callV (As := []) (rest := []) (b := r2) dX10_rankOf_20 k_Y10_rankOf_102 rfl hbfs11 rfl (Nat.le_of_ble_eq_true rfl) hMσ9 hkσ9 hwσ9 ?_
      refine mj_iload (k := 5) dX10_rankOf_23 rfl ?_
      refine mj_iload_n (k := 3) dX10_rankOf_25 rfl rfl ?_
      rcases K with ⟨σ12, hMσ12, hkσ12, hwσ12, K⟩ | ⟨E16, σ17, hMσ17, hkσ17, hwσ17, K⟩
      · refine mj_callS (As := [mR r10, mI r8, mI l3]) (rest := []) dX10_rankOf_26 k_Y10_rankOf_144 rfl (Nat.le_of_ble_eq_true rfl) hMσ12 hkσ12 hwσ12 ?_
        refine mj_aload (k := 4) dX10_rankOf_29 rfl ?_
        refine mj_iload (k := 5) dX10_rankOf_31 rfl ?_
        refine mj_iload_n (k := 3) dX10_rankOf_33 rfl rfl ?_
        obtain ⟨fs15, hbfs15, K⟩ := K
        obtain ⟨r14, σ13, hMσ13, hkσ13, hwσ13, K⟩ := K
        refine mj_callV (As := [mI r8, mI l3]) (rest := []) (b := r2) dX10_rankOf_34 k_Y10_rankOf_199 rfl hbfs15 rfl (Nat.le_of_ble_eq_true rfl) hMσ13 hkσ13 hwσ13 ?_
        exact mj_ret (v := some (mI r14)) ⟨dX10_rankOf_37, .int, rfl, rfl⟩ K
      · exact mj_callSX_out (As := [mR r10, mI r8, mI l3]) (rest := []) dX10_rankOf_26 k_Y10_rankOf_144 rfl (Nat.le_of_ble_eq_true rfl) hMσ17 hkσ17 hwσ17 (fun z hz => by cases hz) K
    · exact mj_callSX_out (As := [mR r5, mI l2]) (rest := []) dX10_rankOf_13 k_Y10_rankOf_108 rfl (Nat.le_of_ble_eq_true rfl) hMσ19 hkσ19 hwσ19 (fun z hz => by cases hz) K
  · exact mj_callVX_out (As := [mI l1]) (rest := []) (b := l0) dX10_rankOf_2 k_Y10_rankOf_178 rfl hbfs3 rfl (Nat.le_of_ble_eq_true rfl) hMσ21 hkσ21 hwσ21 (fun z hz => by cases hz) K
theorem B_Y10_turned_0 {kb wb : Nat} {σ : mx_S} {Q : mx_R → Prop} {l0 : Nat} {l1 : Int} {l2 : Int} (K : ∃ (fs : List mx_V), sH σ (l0) = some (.inl (10, fs)) ∧ ((∃ (r2 : Nat) (σ1 : mx_S), mx_MS Y10_orderedView [mR l0, mI l1] σ (.inl (some (mR r2), σ1)) ∧ sK σ1 ≤ kb ∧ sW σ1 ≤ wb ∧ ((∃ (σ4 : mx_S), mx_MS Y10_needRank [mR r2, mI l2] σ1 (.inl (none, σ4)) ∧ sK σ4 ≤ kb ∧ sW σ4 ≤ wb ∧ ∃ (fs : List mx_V), sH σ4 (r2) = some (.inl (9, fs)) ∧ ∃ (r6 : Int) (σ5 : mx_S), mx_MS Y9_turnedAt [mR r2, mI l2] σ4 (.inl (some (mI r6), σ5)) ∧ sK σ5 ≤ kb ∧ sW σ5 ≤ wb ∧ 0 ≤ r6 ∧ r6 ≤ 65535 ∧ Q (.inl (some (mI r6), σ5))) ∨ (∃ (E8 : String) (σ9 : mx_S), mx_MS Y10_needRank [mR r2, mI l2] σ1 (.inr (E8, σ9)) ∧ sK σ9 ≤ kb ∧ sW σ9 ≤ wb ∧ Q (.inr (E8, σ9))))) ∨ (∃ (E10 : String) (σ11 : mx_S), mx_MS Y10_orderedView [mR l0, mI l1] σ (.inr (E10, σ11)) ∧ sK σ11 ≤ kb ∧ sW σ11 ≤ wb ∧ Q (.inr (E10, σ11))))) : mx_J Y10_turned kb wb 0 [some (mR l0), some (mI l1), some (mI l2), none] [] σ Q := by
  refine mj_aload_n (k := 0) dX10_turned_0 rfl rfl ?_
  refine mj_iload_n (k := 1) dX10_turned_1 rfl rfl ?_
  obtain ⟨fs3, hbfs3, K⟩ := K
  rcases K with ⟨r2, σ1, hMσ1, hkσ1, hwσ1, K⟩ | ⟨E10, σ11, hMσ11, hkσ11, hwσ11, K⟩
  · refine mj_callV (As := [mI l1]) (rest := []) (b := l0) dX10_turned_2 k_Y10_turned_178 rfl hbfs3 rfl (Nat.le_of_ble_eq_true rfl) hMσ1 hkσ1 hwσ1 ?_
    refine mj_astore_n (k := 3) (ls' := [some (mR l0), some (mI l1), some (mI l2), some (mR r2)]) dX10_turned_5 rfl (by decide) rfl ?_
    refine mj_aload_n (k := 3) dX10_turned_6 rfl rfl ?_
    refine mj_iload_n (k := 2) dX10_turned_7 rfl rfl ?_
    rcases K with ⟨σ4, hMσ4, hkσ4, hwσ4, K⟩ | ⟨E8, σ9, hMσ9, hkσ9, hwσ9, K⟩
    · refine mj_callS (As := [mR r2, mI l2]) (rest := []) dX10_turned_8 k_Y10_turned_181 rfl (Nat.le_of_ble_eq_true rfl) hMσ4 hkσ4 hwσ4 ?_
      refine mj_aload_n (k := 3) dX10_turned_11 rfl rfl ?_
      refine mj_iload_n (k := 2) dX10_turned_12 rfl rfl ?_
      obtain ⟨fs7, hbfs7, K⟩ := K
      obtain ⟨r6, σ5, hMσ5, hkσ5, hwσ5, K⟩ := K
      refine mj_callV (As := [mI l2]) (rest := []) (b := r2) dX10_turned_13 k_Y10_turned_203 rfl hbfs7 rfl (Nat.le_of_ble_eq_true rfl) hMσ5 hkσ5 hwσ5 ?_
      exact mj_ret (v := some (mI r6)) ⟨dX10_turned_16, .char, rfl, mx_nch K.1 K.2.1⟩ K.2.2
    · exact mj_callSX_out (As := [mR r2, mI l2]) (rest := []) dX10_turned_8 k_Y10_turned_181 rfl (Nat.le_of_ble_eq_true rfl) hMσ9 hkσ9 hwσ9 (fun z hz => by cases hz) K
  · exact mj_callVX_out (As := [mI l1]) (rest := []) (b := l0) dX10_turned_2 k_Y10_turned_178 rfl hbfs3 rfl (Nat.le_of_ble_eq_true rfl) hMσ11 hkσ11 hwσ11 (fun z hz => by cases hz) K
theorem B_Y10_runs_0 {kb wb : Nat} {σ : mx_S} {Q : mx_R → Prop} {l0 : Nat} {l1 : Int} (K : ∃ (fs : List mx_V), sH σ (l0) = some (.inl (10, fs)) ∧ ((∃ (r2 : Nat) (σ1 : mx_S), mx_MS Y10_orderedView [mR l0, mI l1] σ (.inl (some (mR r2), σ1)) ∧ sK σ1 ≤ kb ∧ sW σ1 ≤ wb ∧ ∃ (fs : List mx_V), sH σ1 (r2) = some (.inl (9, fs)) ∧ ∃ (r5 : Int) (σ4 : mx_S), mx_MS Y9_runsOfTurned [mR r2] σ1 (.inl (some (mI r5), σ4)) ∧ sK σ4 ≤ kb ∧ sW σ4 ≤ wb ∧ Q (.inl (some (mI r5), σ4))) ∨ (∃ (E7 : String) (σ8 : mx_S), mx_MS Y10_orderedView [mR l0, mI l1] σ (.inr (E7, σ8)) ∧ sK σ8 ≤ kb ∧ sW σ8 ≤ wb ∧ Q (.inr (E7, σ8))))) : mx_J Y10_runs kb wb 0 [some (mR l0), some (mI l1)] [] σ Q := by
  refine mj_aload_n (k := 0) dX10_runs_0 rfl rfl ?_
  refine mj_iload_n (k := 1) dX10_runs_1 rfl rfl ?_
  obtain ⟨fs3, hbfs3, K⟩ := K
  rcases K with ⟨r2, σ1, hMσ1, hkσ1, hwσ1, K⟩ | ⟨E7, σ8, hMσ8, hkσ8, hwσ8, K⟩
  · refine mj_callV (As := [mI l1]) (rest := []) (b := l0) dX10_runs_2 k_Y10_runs_178 rfl hbfs3 rfl (Nat.le_of_ble_eq_true rfl) hMσ1 hkσ1 hwσ1 ?_
    obtain ⟨fs6, hbfs6, K⟩ := K
    obtain ⟨r5, σ4, hMσ4, hkσ4, hwσ4, K⟩ := K
    refine mj_callV (As := []) (rest := []) (b := r2) dX10_runs_5 k_Y10_runs_207 rfl hbfs6 rfl (Nat.le_of_ble_eq_true rfl) hMσ4 hkσ4 hwσ4 ?_
    exact mj_ret (v := some (mI r5)) ⟨dX10_runs_8, .int, rfl, rfl⟩ K
  · exact mj_callVX_out (As := [mI l1]) (rest := []) (b := l0) dX10_runs_2 k_Y10_runs_178 rfl hbfs3 rfl (Nat.le_of_ble_eq_true rfl) hMσ8 hkσ8 hwσ8 (fun z hz => by cases hz) K
theorem B_Y10_ahead_0 {kb wb : Nat} {σ : mx_S} {Q : mx_R → Prop} {l0 : Nat} {l1 : Int} {l2 : Int} {l3 : Int} (K : ∃ (fs : List mx_V), sH σ (l0) = some (.inl (10, fs)) ∧ ((∃ (r2 : Nat) (σ1 : mx_S), mx_MS Y10_orderedView [mR l0, mI l1] σ (.inl (some (mR r2), σ1)) ∧ sK σ1 ≤ kb ∧ sW σ1 ≤ wb ∧ ∃ (r5 : Int) (σ4 : mx_S), mx_MS Y10_isLetter [mI l2] σ1 (.inl (some (mI r5), σ4)) ∧ sK σ4 ≤ kb ∧ sW σ4 ≤ wb ∧ (¬ r5 = (0 : Int) → mx_J Y10_ahead kb wb 30 [some (mR l0), some (mI l1), some (mI l2), some (mI l3), some (mR r2)] [] σ4 Q) ∧ (¬ (¬ r5 = (0 : Int)) → (l2 = (36 : Int) → mx_J Y10_ahead kb wb 30 [some (mR l0), some (mI l1), some (mI l2), some (mI l3), some (mR r2)] [] σ4 Q) ∧ (¬ (l2 = (36 : Int)) → sK σ4 + 1 ≤ kb ∧ sW σ4 + 6 ≤ wb ∧ Q (.inr ("java/lang/IllegalArgumentException", (sB σ4, sH σ4, sN σ4, sK σ4 + 1, sW σ4 + 6)))))) ∨ (∃ (E6 : String) (σ7 : mx_S), mx_MS Y10_orderedView [mR l0, mI l1] σ (.inr (E6, σ7)) ∧ sK σ7 ≤ kb ∧ sW σ7 ≤ wb ∧ Q (.inr (E6, σ7))))) : mx_J Y10_ahead kb wb 0 [some (mR l0), some (mI l1), some (mI l2), some (mI l3), none] [] σ Q := by
  refine mj_aload_n (k := 0) dX10_ahead_0 rfl rfl ?_
  refine mj_iload_n (k := 1) dX10_ahead_1 rfl rfl ?_
  obtain ⟨fs3, hbfs3, K⟩ := K
  rcases K with ⟨r2, σ1, hMσ1, hkσ1, hwσ1, K⟩ | ⟨E6, σ7, hMσ7, hkσ7, hwσ7, K⟩
  · refine mj_callV (As := [mI l1]) (rest := []) (b := l0) dX10_ahead_2 k_Y10_ahead_178 rfl hbfs3 rfl (Nat.le_of_ble_eq_true rfl) hMσ1 hkσ1 hwσ1 ?_
    refine mj_astore (k := 4) (ls' := [some (mR l0), some (mI l1), some (mI l2), some (mI l3), some (mR r2)]) dX10_ahead_5 (by decide) rfl ?_
    refine mj_iload_n (k := 2) dX10_ahead_7 rfl rfl ?_
    obtain ⟨r5, σ4, hMσ4, hkσ4, hwσ4, K⟩ := K
    refine mj_callS (As := [mI l2]) (rest := []) dX10_ahead_8 k_Y10_ahead_210 rfl (Nat.le_of_ble_eq_true rfl) hMσ4 hkσ4 hwσ4 ?_
    refine mj_if_ne (tgt := 30) dX10_ahead_11 (by decide) ⟨fun h => ?_, fun h => ?_⟩
    · replace K := K.1 h
      exact K
    · replace K := K.2 h
      refine mj_iload_n (k := 2) dX10_ahead_14 rfl rfl ?_
      refine mj_bipush (n := 36) dX10_ahead_15 ⟨by decide, by decide⟩ (by decide) ?_
      refine mj_icmp_eq (tgt := 30) dX10_ahead_17 (by decide) ⟨fun h => ?_, fun h => ?_⟩
      · replace K := K.1 h
        exact K
      · replace K := K.2 h
        exact mj_thr tn_Y10_ahead_20 K.1 K.2.1 K.2.2
  · exact mj_callVX_out (As := [mI l1]) (rest := []) (b := l0) dX10_ahead_2 k_Y10_ahead_178 rfl hbfs3 rfl (Nat.le_of_ble_eq_true rfl) hMσ7 hkσ7 hwσ7 (fun z hz => by cases hz) K
theorem B_Y10_ahead_30 {kb wb : Nat} {σ : mx_S} {Q : mx_R → Prop} {l0 : Nat} {l1 : Int} {l2 : Int} {l3 : Int} {l4 : Nat} (K : (l3 < (0 : Int) → mx_J Y10_ahead kb wb 46 [some (mR l0), some (mI l1), some (mI l2), some (mI l3), some (mR l4)] [] σ Q) ∧ (¬ (l3 < (0 : Int)) → ∃ (fs : List mx_V), sH σ (l4) = some (.inl (9, fs)) ∧ ∃ (r2 : Nat) (σ1 : mx_S), mx_MS Y9_texts [mR l4] σ (.inl (some (mR r2), σ1)) ∧ sK σ1 ≤ kb ∧ sW σ1 ≤ wb ∧ ∃ (fs : List mx_V), sH σ1 (r2) = some (.inl (8, fs)) ∧ ∃ (r5 : Int) (σ4 : mx_S), mx_MS Y8_places [mR r2] σ1 (.inl (some (mI r5), σ4)) ∧ sK σ4 ≤ kb ∧ sW σ4 ≤ wb ∧ (l3 ≤ r5 → ∃ (fs : List mx_V), sH σ4 (l4) = some (.inl (9, fs)) ∧ ∃ (r8 : Int) (σ7 : mx_S), mx_MS Y9_turnedAhead [mR l4, mI l2, mI l3] σ4 (.inl (some (mI r8), σ7)) ∧ sK σ7 ≤ kb ∧ sW σ7 ≤ wb ∧ Q (.inl (some (mI r8), σ7))) ∧ (¬ (l3 ≤ r5) → mx_J Y10_ahead kb wb 46 [some (mR l0), some (mI l1), some (mI l2), some (mI l3), some (mR l4)] [] σ4 Q))) : mx_J Y10_ahead kb wb 30 [some (mR l0), some (mI l1), some (mI l2), some (mI l3), some (mR l4)] [] σ Q := by
  refine mj_iload_n (k := 3) dX10_ahead_30 rfl rfl ?_
  refine mj_if_lt (tgt := 46) dX10_ahead_31 (by decide) ⟨fun h => ?_, fun h => ?_⟩
  · replace K := K.1 h
    exact K
  · replace K := K.2 h
    refine mj_iload_n (k := 3) dX10_ahead_34 rfl rfl ?_
    refine mj_aload (k := 4) dX10_ahead_35 rfl ?_
    obtain ⟨fs3, hbfs3, K⟩ := K
    obtain ⟨r2, σ1, hMσ1, hkσ1, hwσ1, K⟩ := K
    refine mj_callV (As := []) (rest := [mI l3]) (b := l4) dX10_ahead_37 k_Y10_ahead_102 rfl hbfs3 rfl (Nat.le_of_ble_eq_true rfl) hMσ1 hkσ1 hwσ1 ?_
    obtain ⟨fs6, hbfs6, K⟩ := K
    obtain ⟨r5, σ4, hMσ4, hkσ4, hwσ4, K⟩ := K
    refine mj_callV (As := []) (rest := [mI l3]) (b := r2) dX10_ahead_40 k_Y10_ahead_215 rfl hbfs6 rfl (Nat.le_of_ble_eq_true rfl) hMσ4 hkσ4 hwσ4 ?_
    refine mj_icmp_le (tgt := 56) dX10_ahead_43 (by decide) ⟨fun h => ?_, fun h => ?_⟩
    · replace K := K.1 h
      refine mj_aload (k := 4) dX10_ahead_56 rfl ?_
      refine mj_iload_n (k := 2) dX10_ahead_58 rfl rfl ?_
      refine mj_iload_n (k := 3) dX10_ahead_59 rfl rfl ?_
      obtain ⟨fs9, hbfs9, K⟩ := K
      obtain ⟨r8, σ7, hMσ7, hkσ7, hwσ7, K⟩ := K
      refine mj_callV (As := [mI l2, mI l3]) (rest := []) (b := l4) dX10_ahead_60 k_Y10_ahead_220 rfl hbfs9 rfl (Nat.le_of_ble_eq_true rfl) hMσ7 hkσ7 hwσ7 ?_
      exact mj_ret (v := some (mI r8)) ⟨dX10_ahead_63, .int, rfl, rfl⟩ K
    · replace K := K.2 h
      exact K
theorem B_Y10_ahead_46 {kb wb : Nat} {σ : mx_S} {Q : mx_R → Prop} {l0 : Nat} {l1 : Int} {l2 : Int} {l3 : Int} {l4 : Nat} (K : sK σ + 1 ≤ kb ∧ sW σ + 6 ≤ wb ∧ Q (.inr ("java/lang/IllegalArgumentException", (sB σ, sH σ, sN σ, sK σ + 1, sW σ + 6)))) : mx_J Y10_ahead kb wb 46 [some (mR l0), some (mI l1), some (mI l2), some (mI l3), some (mR l4)] [] σ Q := by
  exact mj_thr tn_Y10_ahead_46 K.1 K.2.1 K.2.2
theorem B_Y10_interval_0 {kb wb : Nat} {σ : mx_S} {Q : mx_R → Prop} {l0 : Nat} {l1 : Int} {l2 : Int} {l3 : Int} (K : ∃ (fs : List mx_V), sH σ (l0) = some (.inl (10, fs)) ∧ ((∃ (r2 : Nat) (σ1 : mx_S), mx_MS Y10_neededView [mR l0, mI l1] σ (.inl (some (mR r2), σ1)) ∧ sK σ1 ≤ kb ∧ sW σ1 ≤ wb ∧ ∃ (fs : List mx_V), sH σ1 (l0) = some (.inl (10, fs)) ∧ ((∃ (σ4 : mx_S), mx_MS Y10_needPlainRow [mR l0] σ1 (.inl (none, σ4)) ∧ sK σ4 ≤ kb ∧ sW σ4 ≤ wb ∧ (l2 < (0 : Int) → mx_J Y10_interval kb wb 26 [some (mR l0), some (mI l1), some (mI l2), some (mI l3), some (mR r2)] [] σ4 Q) ∧ (¬ (l2 < (0 : Int)) → ∃ (fs : List mx_V), sH σ4 (l0) = some (.inl (10, fs)) ∧ ∃ x7, fs[0]? = some (mR x7) ∧ ∃ (fs : List mx_V), sH σ4 (x7) = some (.inl (6, fs)) ∧ ∃ (r9 : Int) (σ8 : mx_S), mx_MS Y6_size [mR x7] σ4 (.inl (some (mI r9), σ8)) ∧ sK σ8 ≤ kb ∧ sW σ8 ≤ wb ∧ (l2 ≤ r9 → ∃ (fs : List mx_V), sH σ8 (l0) = some (.inl (10, fs)) ∧ ∃ x12, fs[0]? = some (mR x12) ∧ ∃ (fs : List mx_V), sH σ8 (l0) = some (.inl (10, fs)) ∧ ∃ x14, fs[0]? = some (mR x14) ∧ ∃ (fs : List mx_V), sH σ8 (x14) = some (.inl (6, fs)) ∧ ∃ (r16 : Int) (σ15 : mx_S), mx_MS Y6_size [mR x14] σ8 (.inl (some (mI r16), σ15)) ∧ sK σ15 ≤ kb ∧ sW σ15 ≤ wb ∧ ∃ (fs : List mx_V), sH σ15 (r2) = some (.inl (9, fs)) ∧ ∃ (r19 : Int) (σ18 : mx_S), mx_MS Y9_boundOf [mR r2, mR x12, mI (mx_w (r16 - l2)), mI l3] σ15 (.inl (some (mI r19), σ18)) ∧ sK σ18 ≤ kb ∧ sW σ18 ≤ wb ∧ Q (.inl (some (mI r19), σ18))) ∧ (¬ (l2 ≤ r9) → mx_J Y10_interval kb wb 26 [some (mR l0), some (mI l1), some (mI l2), some (mI l3), some (mR r2)] [] σ8 Q))) ∨ (∃ (E21 : String) (σ22 : mx_S), mx_MS Y10_needPlainRow [mR l0] σ1 (.inr (E21, σ22)) ∧ sK σ22 ≤ kb ∧ sW σ22 ≤ wb ∧ Q (.inr (E21, σ22))))) ∨ (∃ (E23 : String) (σ24 : mx_S), mx_MS Y10_neededView [mR l0, mI l1] σ (.inr (E23, σ24)) ∧ sK σ24 ≤ kb ∧ sW σ24 ≤ wb ∧ Q (.inr (E23, σ24))))) : mx_J Y10_interval kb wb 0 [some (mR l0), some (mI l1), some (mI l2), some (mI l3), none] [] σ Q := by
  refine mj_aload_n (k := 0) dX10_interval_0 rfl rfl ?_
  refine mj_iload_n (k := 1) dX10_interval_1 rfl rfl ?_
  obtain ⟨fs3, hbfs3, K⟩ := K
  rcases K with ⟨r2, σ1, hMσ1, hkσ1, hwσ1, K⟩ | ⟨E23, σ24, hMσ24, hkσ24, hwσ24, K⟩
  · refine mj_callV (As := [mI l1]) (rest := []) (b := l0) dX10_interval_2 k_Y10_interval_137 rfl hbfs3 rfl (Nat.le_of_ble_eq_true rfl) hMσ1 hkσ1 hwσ1 ?_
    refine mj_astore (k := 4) (ls' := [some (mR l0), some (mI l1), some (mI l2), some (mI l3), some (mR r2)]) dX10_interval_5 (by decide) rfl ?_
    refine mj_aload_n (k := 0) dX10_interval_7 rfl rfl ?_
    obtain ⟨fs5, hbfs5, K⟩ := K
    rcases K with ⟨σ4, hMσ4, hkσ4, hwσ4, K⟩ | ⟨E21, σ22, hMσ22, hkσ22, hwσ22, K⟩
    · refine mj_callV (As := []) (rest := []) (b := l0) dX10_interval_8 k_Y10_interval_81 rfl hbfs5 rfl (Nat.le_of_ble_eq_true rfl) hMσ4 hkσ4 hwσ4 ?_
      refine mj_iload_n (k := 2) dX10_interval_11 rfl rfl ?_
      refine mj_if_lt (tgt := 26) dX10_interval_12 (by decide) ⟨fun h => ?_, fun h => ?_⟩
      · replace K := K.1 h
        exact K
      · replace K := K.2 h
        refine mj_iload_n (k := 2) dX10_interval_15 rfl rfl ?_
        refine mj_aload_n (k := 0) dX10_interval_16 rfl rfl ?_
        obtain ⟨fs6, hffs6, x7, hxx7, K⟩ := K
        refine mj_get dX10_interval_17 lf_Y10_interval_12 hffs6 hxx7 ?_
        obtain ⟨fs10, hbfs10, K⟩ := K
        obtain ⟨r9, σ8, hMσ8, hkσ8, hwσ8, K⟩ := K
        refine mj_callV (As := []) (rest := [mI l2]) (b := x7) dX10_interval_20 k_Y10_interval_65 rfl hbfs10 rfl (Nat.le_of_ble_eq_true rfl) hMσ8 hkσ8 hwσ8 ?_
        refine mj_icmp_le (tgt := 36) dX10_interval_23 (by decide) ⟨fun h => ?_, fun h => ?_⟩
        · replace K := K.1 h
          refine mj_aload (k := 4) dX10_interval_36 rfl ?_
          refine mj_aload_n (k := 0) dX10_interval_38 rfl rfl ?_
          obtain ⟨fs11, hffs11, x12, hxx12, K⟩ := K
          refine mj_get dX10_interval_39 lf_Y10_interval_12 hffs11 hxx12 ?_
          refine mj_aload_n (k := 0) dX10_interval_42 rfl rfl ?_
          obtain ⟨fs13, hffs13, x14, hxx14, K⟩ := K
          refine mj_get dX10_interval_43 lf_Y10_interval_12 hffs13 hxx14 ?_
          obtain ⟨fs17, hbfs17, K⟩ := K
          obtain ⟨r16, σ15, hMσ15, hkσ15, hwσ15, K⟩ := K
          refine mj_callV (As := []) (rest := [mR x12, mR r2]) (b := x14) dX10_interval_46 k_Y10_interval_65 rfl hbfs17 rfl (Nat.le_of_ble_eq_true rfl) hMσ15 hkσ15 hwσ15 ?_
          refine mj_iload_n (k := 2) dX10_interval_49 rfl rfl ?_
          refine mj_isub dX10_interval_50 ?_
          refine mj_iload_n (k := 3) dX10_interval_51 rfl rfl ?_
          obtain ⟨fs20, hbfs20, K⟩ := K
          obtain ⟨r19, σ18, hMσ18, hkσ18, hwσ18, K⟩ := K
          refine mj_callV (As := [mR x12, mI (mx_w (r16 - l2)), mI l3]) (rest := []) (b := r2) dX10_interval_52 k_Y10_interval_226 rfl hbfs20 rfl (Nat.le_of_ble_eq_true rfl) hMσ18 hkσ18 hwσ18 ?_
          exact mj_ret (v := some (mI r19)) ⟨dX10_interval_55, .int, rfl, rfl⟩ K
        · replace K := K.2 h
          exact K
    · exact mj_callVX_out (As := []) (rest := []) (b := l0) dX10_interval_8 k_Y10_interval_81 rfl hbfs5 rfl (Nat.le_of_ble_eq_true rfl) hMσ22 hkσ22 hwσ22 (fun z hz => by cases hz) K
  · exact mj_callVX_out (As := [mI l1]) (rest := []) (b := l0) dX10_interval_2 k_Y10_interval_137 rfl hbfs3 rfl (Nat.le_of_ble_eq_true rfl) hMσ24 hkσ24 hwσ24 (fun z hz => by cases hz) K
theorem B_Y10_interval_26 {kb wb : Nat} {σ : mx_S} {Q : mx_R → Prop} {l0 : Nat} {l1 : Int} {l2 : Int} {l3 : Int} {l4 : Nat} (K : sK σ + 1 ≤ kb ∧ sW σ + 6 ≤ wb ∧ Q (.inr ("java/lang/IllegalArgumentException", (sB σ, sH σ, sN σ, sK σ + 1, sW σ + 6)))) : mx_J Y10_interval kb wb 26 [some (mR l0), some (mI l1), some (mI l2), some (mI l3), some (mR l4)] [] σ Q := by
  exact mj_thr tn_Y10_interval_26 K.1 K.2.1 K.2.2
theorem B_Y10_needSimpleRow_0 {kb wb : Nat} {σ : mx_S} {Q : mx_R → Prop} {l0 : Nat} (K : ∃ (fs : List mx_V), sH σ (l0) = some (.inl (10, fs)) ∧ ∃ x2, fs[0]? = some (mR x2) ∧ ∃ (fs : List mx_V), sH σ (x2) = some (.inl (6, fs)) ∧ ∃ (r4 : Int) (σ3 : mx_S), mx_MS Y6_isSimple [mR x2] σ (.inl (some (mI r4), σ3)) ∧ sK σ3 ≤ kb ∧ sW σ3 ≤ wb ∧ (¬ r4 = (0 : Int) → Q (.inl (none, σ3))) ∧ (¬ (¬ r4 = (0 : Int)) → sK σ3 + 1 ≤ kb ∧ sW σ3 + 6 ≤ wb ∧ Q (.inr ("java/lang/UnsupportedOperationException", (sB σ3, sH σ3, sN σ3, sK σ3 + 1, sW σ3 + 6))))) : mx_J Y10_needSimpleRow kb wb 0 [some (mR l0)] [] σ Q := by
  refine mj_aload_n (k := 0) dX10_needSimpleRow_0 rfl rfl ?_
  obtain ⟨fs1, hffs1, x2, hxx2, K⟩ := K
  refine mj_get dX10_needSimpleRow_1 lf_Y10_needSimpleRow_12 hffs1 hxx2 ?_
  obtain ⟨fs5, hbfs5, K⟩ := K
  obtain ⟨r4, σ3, hMσ3, hkσ3, hwσ3, K⟩ := K
  refine mj_callV (As := []) (rest := []) (b := x2) dX10_needSimpleRow_4 k_Y10_needSimpleRow_407 rfl hbfs5 rfl (Nat.le_of_ble_eq_true rfl) hMσ3 hkσ3 hwσ3 ?_
  refine mj_if_ne (tgt := 21) dX10_needSimpleRow_7 (by decide) ⟨fun h => ?_, fun h => ?_⟩
  · replace K := K.1 h
    exact mj_ret (v := none) ⟨dX10_needSimpleRow_21, rfl⟩ K
  · replace K := K.2 h
    exact mj_thr tn_Y10_needSimpleRow_10 K.1 K.2.1 K.2.2
theorem B_Y10_count_0 {kb wb : Nat} {σ : mx_S} {Q : mx_R → Prop} {l0 : Nat} {l1 : Int} (K : ∃ (fs : List mx_V), sH σ (l0) = some (.inl (10, fs)) ∧ ((∃ (r2 : Nat) (σ1 : mx_S), mx_MS Y10_neededView [mR l0, mI l1] σ (.inl (some (mR r2), σ1)) ∧ sK σ1 ≤ kb ∧ sW σ1 ≤ wb ∧ ∃ (fs : List mx_V), sH σ1 (r2) = some (.inl (9, fs)) ∧ ∃ (r5 : Nat) (σ4 : mx_S), mx_MS Y9_texts [mR r2] σ1 (.inl (some (mR r5), σ4)) ∧ sK σ4 ≤ kb ∧ sW σ4 ≤ wb ∧ ∃ (fs : List mx_V), sH σ4 (l0) = some (.inl (10, fs)) ∧ ((∃ (σ7 : mx_S), mx_MS Y10_needSimpleRow [mR l0] σ4 (.inl (none, σ7)) ∧ sK σ7 ≤ kb ∧ sW σ7 ≤ wb ∧ ∃ (fs : List mx_V), sH σ7 (l0) = some (.inl (10, fs)) ∧ ∃ x10, fs[0]? = some (mR x10) ∧ ∃ (fs : List mx_V), sH σ7 (r5) = some (.inl (8, fs)) ∧ ∃ (r12 : Int) (σ11 : mx_S), mx_MS Y8_timesOf [mR r5, mR x10] σ7 (.inl (some (mI r12), σ11)) ∧ sK σ11 ≤ kb ∧ sW σ11 ≤ wb ∧ Q (.inl (some (mI r12), σ11))) ∨ (∃ (E14 : String) (σ15 : mx_S), mx_MS Y10_needSimpleRow [mR l0] σ4 (.inr (E14, σ15)) ∧ sK σ15 ≤ kb ∧ sW σ15 ≤ wb ∧ Q (.inr (E14, σ15))))) ∨ (∃ (E16 : String) (σ17 : mx_S), mx_MS Y10_neededView [mR l0, mI l1] σ (.inr (E16, σ17)) ∧ sK σ17 ≤ kb ∧ sW σ17 ≤ wb ∧ Q (.inr (E16, σ17))))) : mx_J Y10_count kb wb 0 [some (mR l0), some (mI l1), none] [] σ Q := by
  refine mj_aload_n (k := 0) dX10_count_0 rfl rfl ?_
  refine mj_iload_n (k := 1) dX10_count_1 rfl rfl ?_
  obtain ⟨fs3, hbfs3, K⟩ := K
  rcases K with ⟨r2, σ1, hMσ1, hkσ1, hwσ1, K⟩ | ⟨E16, σ17, hMσ17, hkσ17, hwσ17, K⟩
  · refine mj_callV (As := [mI l1]) (rest := []) (b := l0) dX10_count_2 k_Y10_count_137 rfl hbfs3 rfl (Nat.le_of_ble_eq_true rfl) hMσ1 hkσ1 hwσ1 ?_
    obtain ⟨fs6, hbfs6, K⟩ := K
    obtain ⟨r5, σ4, hMσ4, hkσ4, hwσ4, K⟩ := K
    refine mj_callV (As := []) (rest := []) (b := r2) dX10_count_5 k_Y10_count_102 rfl hbfs6 rfl (Nat.le_of_ble_eq_true rfl) hMσ4 hkσ4 hwσ4 ?_
    refine mj_astore_n (k := 2) (ls' := [some (mR l0), some (mI l1), some (mR r5)]) dX10_count_8 rfl (by decide) rfl ?_
    refine mj_aload_n (k := 0) dX10_count_9 rfl rfl ?_
    obtain ⟨fs8, hbfs8, K⟩ := K
    rcases K with ⟨σ7, hMσ7, hkσ7, hwσ7, K⟩ | ⟨E14, σ15, hMσ15, hkσ15, hwσ15, K⟩
    · refine mj_callV (As := []) (rest := []) (b := l0) dX10_count_10 k_Y10_count_230 rfl hbfs8 rfl (Nat.le_of_ble_eq_true rfl) hMσ7 hkσ7 hwσ7 ?_
      refine mj_aload_n (k := 2) dX10_count_13 rfl rfl ?_
      refine mj_aload_n (k := 0) dX10_count_14 rfl rfl ?_
      obtain ⟨fs9, hffs9, x10, hxx10, K⟩ := K
      refine mj_get dX10_count_15 lf_Y10_count_12 hffs9 hxx10 ?_
      obtain ⟨fs13, hbfs13, K⟩ := K
      obtain ⟨r12, σ11, hMσ11, hkσ11, hwσ11, K⟩ := K
      refine mj_callV (As := [mR x10]) (rest := []) (b := r5) dX10_count_18 k_Y10_count_233 rfl hbfs13 rfl (Nat.le_of_ble_eq_true rfl) hMσ11 hkσ11 hwσ11 ?_
      exact mj_ret (v := some (mI r12)) ⟨dX10_count_21, .int, rfl, rfl⟩ K
    · exact mj_callVX_out (As := []) (rest := []) (b := l0) dX10_count_10 k_Y10_count_230 rfl hbfs8 rfl (Nat.le_of_ble_eq_true rfl) hMσ15 hkσ15 hwσ15 (fun z hz => by cases hz) K
  · exact mj_callVX_out (As := [mI l1]) (rest := []) (b := l0) dX10_count_2 k_Y10_count_137 rfl hbfs3 rfl (Nat.le_of_ble_eq_true rfl) hMσ17 hkσ17 hwσ17 (fun z hz => by cases hz) K
theorem B_Y10_placeOfBit_0 {kb wb : Nat} {σ : mx_S} {Q : mx_R → Prop} {l0 : Int} {l2 : Int} (K : mx_J Y10_placeOfBit kb wb 5 [some (mL (l0)), none, some (mI l2), some (mI l2), some (mI ((0 : Int)))] [] σ Q) : mx_J Y10_placeOfBit kb wb 0 [some (mL (l0)), none, some (mI l2), none, none] [] σ Q := by
  refine mj_iload_n (k := 2) dX10_placeOfBit_0 rfl rfl ?_
  refine mj_istore_n (k := 3) (ls' := [some (mL (l0)), none, some (mI l2), some (mI l2), none]) dX10_placeOfBit_1 rfl (by decide) rfl ?_
  refine mj_iconst dX10_placeOfBit_2 ⟨by decide, by decide⟩ ?_
  refine mj_istore (k := 4) (ls' := [some (mL (l0)), none, some (mI l2), some (mI l2), some (mI ((0 : Int)))]) dX10_placeOfBit_3 (by decide) rfl ?_
  exact K
theorem B_Y10_placeOfBit_5 {kb wb : Nat} {σ : mx_S} {Q : mx_R → Prop} {l0 : Int} {l2 : Int} {l3 : Int} {l4 : Int} (K : ((40 : Int) ≤ l4 → Q (.inl (some (mI ((-1 : Int))), σ))) ∧ (¬ ((40 : Int) ≤ l4) → ((lg_cmp (Int64.ofInt (mx_land (mx_lushr (l0) (l4)) ((1 : Int)))) (Int64.ofInt ((0 : Int)))).toInt = (0 : Int) → mx_J Y10_placeOfBit kb wb 33 [some (mL (l0)), none, some (mI l2), some (mI l3), some (mI l4)] [] σ Q) ∧ (¬ ((lg_cmp (Int64.ofInt (mx_land (mx_lushr (l0) (l4)) ((1 : Int)))) (Int64.ofInt ((0 : Int)))).toInt = (0 : Int)) → (¬ l3 = (0 : Int) → mx_J Y10_placeOfBit kb wb 33 [some (mL (l0)), none, some (mI l2), some (mI (mx_w (l3 + (-1 : Int)))), some (mI l4)] [] σ Q) ∧ (¬ (¬ l3 = (0 : Int)) → Q (.inl (some (mI l4), σ)))))) : mx_J Y10_placeOfBit kb wb 5 [some (mL (l0)), none, some (mI l2), some (mI l3), some (mI l4)] [] σ Q := by
  refine mj_iload (k := 4) dX10_placeOfBit_5 rfl ?_
  refine mj_bipush (n := 40) dX10_placeOfBit_7 ⟨by decide, by decide⟩ (by decide) ?_
  refine mj_icmp_ge (tgt := 39) dX10_placeOfBit_9 (by decide) ⟨fun h => ?_, fun h => ?_⟩
  · replace K := K.1 h
    refine mj_iconst dX10_placeOfBit_39 ⟨by decide, by decide⟩ ?_
    exact mj_ret (v := some (mI ((-1 : Int)))) ⟨dX10_placeOfBit_40, .int, rfl, rfl⟩ K
  · replace K := K.2 h
    refine mj_lload_n (k := 0) dX10_placeOfBit_12 rfl rfl ?_
    refine mj_iload (k := 4) dX10_placeOfBit_13 rfl ?_
    refine mj_lushr dX10_placeOfBit_15 ?_
    refine mj_lconst (n := 1) dX10_placeOfBit_16 ⟨by decide, by decide⟩ (by decide) ?_
    refine mj_land dX10_placeOfBit_17 ?_
    refine mj_lconst (n := 0) dX10_placeOfBit_18 ⟨by decide, by decide⟩ (by decide) ?_
    refine mj_lcmp dX10_placeOfBit_19 ?_
    refine mj_if_eq (tgt := 33) dX10_placeOfBit_20 (by decide) ⟨fun h => ?_, fun h => ?_⟩
    · replace K := K.1 h
      exact K
    · replace K := K.2 h
      refine mj_iload_n (k := 3) dX10_placeOfBit_23 rfl rfl ?_
      refine mj_if_ne (tgt := 30) dX10_placeOfBit_24 (by decide) ⟨fun h => ?_, fun h => ?_⟩
      · replace K := K.1 h
        refine mj_iinc (k := 3) (ls' := [some (mL (l0)), none, some (mI l2), some (mI (mx_w (l3 + (-1 : Int)))), some (mI l4)]) dX10_placeOfBit_30 rfl (by decide) rfl ?_
        exact K
      · replace K := K.2 h
        refine mj_iload (k := 4) dX10_placeOfBit_27 rfl ?_
        exact mj_ret (v := some (mI l4)) ⟨dX10_placeOfBit_29, .int, rfl, rfl⟩ K
theorem B_Y10_placeOfBit_33 {kb wb : Nat} {σ : mx_S} {Q : mx_R → Prop} {l0 : Int} {l2 : Int} {l3 : Int} {l4 : Int} (K : mx_J Y10_placeOfBit kb wb 5 [some (mL (l0)), none, some (mI l2), some (mI l3), some (mI (mx_w (l4 + (1 : Int))))] [] σ Q) : mx_J Y10_placeOfBit kb wb 33 [some (mL (l0)), none, some (mI l2), some (mI l3), some (mI l4)] [] σ Q := by
  refine mj_iinc (k := 4) (ls' := [some (mL (l0)), none, some (mI l2), some (mI l3), some (mI (mx_w (l4 + (1 : Int))))]) dX10_placeOfBit_33 rfl (by decide) rfl ?_
  refine mj_goto (tgt := 5) dX10_placeOfBit_36 (by decide) ?_
  exact K
theorem B_Y10_found_0 {kb wb : Nat} {σ : mx_S} {Q : mx_R → Prop} {l0 : Nat} {l1 : Int} {l2 : Int} {l3 : Int} (K : ∃ (fs : List mx_V), sH σ (l0) = some (.inl (10, fs)) ∧ ((∃ (r2 : Nat) (σ1 : mx_S), mx_MS Y10_neededView [mR l0, mI l1] σ (.inl (some (mR r2), σ1)) ∧ sK σ1 ≤ kb ∧ sW σ1 ≤ wb ∧ ∃ (fs : List mx_V), sH σ1 (r2) = some (.inl (9, fs)) ∧ ∃ (r5 : Nat) (σ4 : mx_S), mx_MS Y9_texts [mR r2] σ1 (.inl (some (mR r5), σ4)) ∧ sK σ4 ≤ kb ∧ sW σ4 ≤ wb ∧ ∃ (fs : List mx_V), sH σ4 (l0) = some (.inl (10, fs)) ∧ ((∃ (σ7 : mx_S), mx_MS Y10_needSimpleRow [mR l0] σ4 (.inl (none, σ7)) ∧ sK σ7 ≤ kb ∧ sW σ7 ≤ wb ∧ mx_J Y10_found kb wb 20 [some (mR l0), some (mI l1), some (mI l2), some (mI l3), some (mR r5), some (mI l2), some (mI ((0 : Int))), none, none, none] [] σ7 Q) ∨ (∃ (E9 : String) (σ10 : mx_S), mx_MS Y10_needSimpleRow [mR l0] σ4 (.inr (E9, σ10)) ∧ sK σ10 ≤ kb ∧ sW σ10 ≤ wb ∧ Q (.inr (E9, σ10))))) ∨ (∃ (E11 : String) (σ12 : mx_S), mx_MS Y10_neededView [mR l0, mI l1] σ (.inr (E11, σ12)) ∧ sK σ12 ≤ kb ∧ sW σ12 ≤ wb ∧ Q (.inr (E11, σ12))))) : mx_J Y10_found kb wb 0 [some (mR l0), some (mI l1), some (mI l2), some (mI l3), none, none, none, none, none, none] [] σ Q := by
  refine mj_aload_n (k := 0) dX10_found_0 rfl rfl ?_
  refine mj_iload_n (k := 1) dX10_found_1 rfl rfl ?_
  obtain ⟨fs3, hbfs3, K⟩ := K
  rcases K with ⟨r2, σ1, hMσ1, hkσ1, hwσ1, K⟩ | ⟨E11, σ12, hMσ12, hkσ12, hwσ12, K⟩
  · refine mj_callV (As := [mI l1]) (rest := []) (b := l0) dX10_found_2 k_Y10_found_137 rfl hbfs3 rfl (Nat.le_of_ble_eq_true rfl) hMσ1 hkσ1 hwσ1 ?_
    obtain ⟨fs6, hbfs6, K⟩ := K
    obtain ⟨r5, σ4, hMσ4, hkσ4, hwσ4, K⟩ := K
    refine mj_callV (As := []) (rest := []) (b := r2) dX10_found_5 k_Y10_found_102 rfl hbfs6 rfl (Nat.le_of_ble_eq_true rfl) hMσ4 hkσ4 hwσ4 ?_
    refine mj_astore (k := 4) (ls' := [some (mR l0), some (mI l1), some (mI l2), some (mI l3), some (mR r5), none, none, none, none, none]) dX10_found_8 (by decide) rfl ?_
    refine mj_aload_n (k := 0) dX10_found_10 rfl rfl ?_
    obtain ⟨fs8, hbfs8, K⟩ := K
    rcases K with ⟨σ7, hMσ7, hkσ7, hwσ7, K⟩ | ⟨E9, σ10, hMσ10, hkσ10, hwσ10, K⟩
    · refine mj_callV (As := []) (rest := []) (b := l0) dX10_found_11 k_Y10_found_230 rfl hbfs8 rfl (Nat.le_of_ble_eq_true rfl) hMσ7 hkσ7 hwσ7 ?_
      refine mj_iload_n (k := 2) dX10_found_14 rfl rfl ?_
      refine mj_istore (k := 5) (ls' := [some (mR l0), some (mI l1), some (mI l2), some (mI l3), some (mR r5), some (mI l2), none, none, none, none]) dX10_found_15 (by decide) rfl ?_
      refine mj_iconst dX10_found_17 ⟨by decide, by decide⟩ ?_
      refine mj_istore (k := 6) (ls' := [some (mR l0), some (mI l1), some (mI l2), some (mI l3), some (mR r5), some (mI l2), some (mI ((0 : Int))), none, none, none]) dX10_found_18 (by decide) rfl ?_
      exact K
    · exact mj_callVX_out (As := []) (rest := []) (b := l0) dX10_found_11 k_Y10_found_230 rfl hbfs8 rfl (Nat.le_of_ble_eq_true rfl) hMσ10 hkσ10 hwσ10 (fun z hz => by cases hz) K
  · exact mj_callVX_out (As := [mI l1]) (rest := []) (b := l0) dX10_found_2 k_Y10_found_137 rfl hbfs3 rfl (Nat.le_of_ble_eq_true rfl) hMσ12 hkσ12 hwσ12 (fun z hz => by cases hz) K
theorem B_Y10_found_20 {kb wb : Nat} {σ : mx_S} {Q : mx_R → Prop} {l0 : Nat} {l1 : Int} {l2 : Int} {l3 : Int} {l4 : Nat} {l5 : Int} {l6 : Int} (K : ∃ (fs : List mx_V), sH σ (l4) = some (.inl (8, fs)) ∧ ∃ (r2 : Int) (σ1 : mx_S), mx_MS Y8_many [mR l4] σ (.inl (some (mI r2), σ1)) ∧ sK σ1 ≤ kb ∧ sW σ1 ≤ wb ∧ (r2 ≤ l6 → mx_J Y10_found kb wb 97 [some (mR l0), some (mI l1), some (mI l2), some (mI l3), some (mR l4), some (mI l5), some (mI l6), none, none, none] [] σ1 Q) ∧ (¬ (r2 ≤ l6) → (l5 < (0 : Int) → mx_J Y10_found kb wb 97 [some (mR l0), some (mI l1), some (mI l2), some (mI l3), some (mR l4), some (mI l5), some (mI l6), none, none, none] [] σ1 Q) ∧ (¬ (l5 < (0 : Int)) → ∃ (fs : List mx_V), sH σ1 (l0) = some (.inl (10, fs)) ∧ ∃ x5, fs[0]? = some (mR x5) ∧ ∃ (fs : List mx_V), sH σ1 (l4) = some (.inl (8, fs)) ∧ ∃ (r7 : Int) (σ6 : mx_S), mx_MS Y8_placesOf [mR l4, mI l6, mR x5] σ1 (.inl (some (mL (r7)), σ6)) ∧ sK σ6 ≤ kb ∧ sW σ6 ≤ wb ∧ ∃ (r10 : Int) (σ9 : mx_S), mx_MS YJ13_bitCount_95d88 [mL (r7)] σ6 (.inl (some (mI r10), σ9)) ∧ sK σ9 ≤ kb ∧ sW σ9 ≤ wb ∧ (r10 ≤ l5 → mx_J Y10_found kb wb 20 [some (mR l0), some (mI l1), some (mI l2), some (mI l3), some (mR l4), some (mI (mx_w (l5 - r10))), some (mI (mx_w (l6 + (1 : Int)))), none, none, none] [] σ9 Q) ∧ (¬ (r10 ≤ l5) → (l3 = (0 : Int) → ∃ (fs : List mx_V), sH σ9 (l4) = some (.inl (8, fs)) ∧ ∃ (r12 : Int) (σ11 : mx_S), mx_MS Y8_numberAt [mR l4, mI l6] σ9 (.inl (some (mI r12), σ11)) ∧ sK σ11 ≤ kb ∧ sW σ11 ≤ wb ∧ Q (.inl (some (mI r12), σ11))) ∧ (¬ (l3 = (0 : Int)) → ∃ (r15 : Int) (σ14 : mx_S), mx_MS Y10_placeOfBit [mL (r7), mI l5] σ9 (.inl (some (mI r15), σ14)) ∧ sK σ14 ≤ kb ∧ sW σ14 ≤ wb ∧ Q (.inl (some (mI r15), σ14))))))) : mx_J Y10_found kb wb 20 [some (mR l0), some (mI l1), some (mI l2), some (mI l3), some (mR l4), some (mI l5), some (mI l6), none, none, none] [] σ Q := by
  refine mj_iload (k := 6) dX10_found_20 rfl ?_
  refine mj_aload (k := 4) dX10_found_22 rfl ?_
  obtain ⟨fs3, hbfs3, K⟩ := K
  obtain ⟨r2, σ1, hMσ1, hkσ1, hwσ1, K⟩ := K
  refine mj_callV (As := []) (rest := [mI l6]) (b := l4) dX10_found_24 k_Y10_found_134 rfl hbfs3 rfl (Nat.le_of_ble_eq_true rfl) hMσ1 hkσ1 hwσ1 ?_
  refine mj_icmp_ge (tgt := 97) dX10_found_27 (by decide) ⟨fun h => ?_, fun h => ?_⟩
  · replace K := K.1 h
    exact K
  · replace K := K.2 h
    refine mj_iload (k := 5) dX10_found_30 rfl ?_
    refine mj_if_lt (tgt := 97) dX10_found_32 (by decide) ⟨fun h => ?_, fun h => ?_⟩
    · replace K := K.1 h
      exact K
    · replace K := K.2 h
      refine mj_aload (k := 4) dX10_found_35 rfl ?_
      refine mj_iload (k := 6) dX10_found_37 rfl ?_
      refine mj_aload_n (k := 0) dX10_found_39 rfl rfl ?_
      obtain ⟨fs4, hffs4, x5, hxx5, K⟩ := K
      refine mj_get dX10_found_40 lf_Y10_found_12 hffs4 hxx5 ?_
      obtain ⟨fs8, hbfs8, K⟩ := K
      obtain ⟨r7, σ6, hMσ6, hkσ6, hwσ6, K⟩ := K
      refine mj_callV (As := [mI l6, mR x5]) (rest := []) (b := l4) dX10_found_43 k_Y10_found_236 rfl hbfs8 rfl (Nat.le_of_ble_eq_true rfl) hMσ6 hkσ6 hwσ6 ?_
      refine mj_lstore (k := 7) (ls' := [some (mR l0), some (mI l1), some (mI l2), some (mI l3), some (mR l4), some (mI l5), some (mI l6), some (mL (r7)), none, none]) dX10_found_46 (by decide) rfl ?_
      refine mj_lload (k := 7) dX10_found_48 rfl ?_
      obtain ⟨r10, σ9, hMσ9, hkσ9, hwσ9, K⟩ := K
      refine mj_callS (As := [mL (r7)]) (rest := []) dX10_found_50 k_Y10_found_240 rfl (Nat.le_of_ble_eq_true rfl) hMσ9 hkσ9 hwσ9 ?_
      refine mj_istore (k := 9) (ls' := [some (mR l0), some (mI l1), some (mI l2), some (mI l3), some (mR l4), some (mI l5), some (mI l6), some (mL (r7)), none, some (mI r10)]) dX10_found_53 (by decide) rfl ?_
      refine mj_iload (k := 5) dX10_found_55 rfl ?_
      refine mj_iload (k := 9) dX10_found_57 rfl ?_
      refine mj_icmp_ge (tgt := 84) dX10_found_59 (by decide) ⟨fun h => ?_, fun h => ?_⟩
      · replace K := K.1 h
        refine mj_iload (k := 5) dX10_found_84 rfl ?_
        refine mj_iload (k := 9) dX10_found_86 rfl ?_
        refine mj_isub dX10_found_88 ?_
        refine mj_istore (k := 5) (ls' := [some (mR l0), some (mI l1), some (mI l2), some (mI l3), some (mR l4), some (mI (mx_w (l5 - r10))), some (mI l6), some (mL (r7)), none, some (mI r10)]) dX10_found_89 (by decide) rfl ?_
        refine mj_iinc (k := 6) (ls' := [some (mR l0), some (mI l1), some (mI l2), some (mI l3), some (mR l4), some (mI (mx_w (l5 - r10))), some (mI (mx_w (l6 + (1 : Int)))), some (mL (r7)), none, some (mI r10)]) dX10_found_91 rfl (by decide) rfl ?_
        refine mj_goto (tgt := 20) dX10_found_94 (by decide) ?_
        exact mj_forget (ls' := [some (mR l0), some (mI l1), some (mI l2), some (mI l3), some (mR l4), some (mI (mx_w (l5 - r10))), some (mI (mx_w (l6 + (1 : Int)))), none, none, none]) ⟨rfl, ⟨rfl, ⟨rfl, ⟨rfl, ⟨rfl, ⟨rfl, ⟨rfl, trivial⟩⟩⟩⟩⟩⟩⟩ K
      · replace K := K.2 h
        refine mj_iload_n (k := 3) dX10_found_62 rfl rfl ?_
        refine mj_if_eq (tgt := 76) dX10_found_63 (by decide) ⟨fun h => ?_, fun h => ?_⟩
        · replace K := K.1 h
          refine mj_aload (k := 4) dX10_found_76 rfl ?_
          refine mj_iload (k := 6) dX10_found_78 rfl ?_
          obtain ⟨fs13, hbfs13, K⟩ := K
          obtain ⟨r12, σ11, hMσ11, hkσ11, hwσ11, K⟩ := K
          refine mj_callV (As := [mI l6]) (rest := []) (b := l4) dX10_found_80 k_Y10_found_188 rfl hbfs13 rfl (Nat.le_of_ble_eq_true rfl) hMσ11 hkσ11 hwσ11 ?_
          exact mj_ret (v := some (mI r12)) ⟨dX10_found_83, .int, rfl, rfl⟩ K
        · replace K := K.2 h
          refine mj_lload (k := 7) dX10_found_66 rfl ?_
          refine mj_iload (k := 5) dX10_found_68 rfl ?_
          obtain ⟨r15, σ14, hMσ14, hkσ14, hwσ14, K⟩ := K
          refine mj_callS (As := [mL (r7), mI l5]) (rest := []) dX10_found_70 k_Y10_found_246 rfl (Nat.le_of_ble_eq_true rfl) hMσ14 hkσ14 hwσ14 ?_
          refine mj_goto (tgt := 83) dX10_found_73 (by decide) ?_
          exact mj_ret (v := some (mI r15)) ⟨dX10_found_83, .int, rfl, rfl⟩ K
theorem B_Y10_found_97 {kb wb : Nat} {σ : mx_S} {Q : mx_R → Prop} {l0 : Nat} {l1 : Int} {l2 : Int} {l3 : Int} {l4 : Nat} {l5 : Int} {l6 : Int} (K : sK σ + 1 ≤ kb ∧ sW σ + 6 ≤ wb ∧ Q (.inr ("java/util/NoSuchElementException", (sB σ, sH σ, sN σ, sK σ + 1, sW σ + 6)))) : mx_J Y10_found kb wb 97 [some (mR l0), some (mI l1), some (mI l2), some (mI l3), some (mR l4), some (mI l5), some (mI l6), none, none, none] [] σ Q := by
  exact mj_thr tn_Y10_found_97 K.1 K.2.1 K.2.2
theorem B_Y10_runShare_0 {kb wb : Nat} {σ : mx_S} {Q : mx_R → Prop} {l0 : Nat} {l1 : Int} (K : ∃ (fs : List mx_V), sH σ (l0) = some (.inl (10, fs)) ∧ ((∃ (r2 : Nat) (σ1 : mx_S), mx_MS Y10_orderedView [mR l0, mI l1] σ (.inl (some (mR r2), σ1)) ∧ sK σ1 ≤ kb ∧ sW σ1 ≤ wb ∧ ∃ (fs : List mx_V), sH σ1 (r2) = some (.inl (9, fs)) ∧ ∃ (r5 : Nat) (σ4 : mx_S), mx_MS Y9_texts [mR r2] σ1 (.inl (some (mR r5), σ4)) ∧ sK σ4 ≤ kb ∧ sW σ4 ≤ wb ∧ ∃ (fs : List mx_V), sH σ4 (r5) = some (.inl (8, fs)) ∧ ∃ (r8 : Int) (σ7 : mx_S), mx_MS Y8_places [mR r5] σ4 (.inl (some (mI r8), σ7)) ∧ sK σ7 ≤ kb ∧ sW σ7 ≤ wb ∧ ((1 : Int) ≤ r8 → ∃ (fs : List mx_V), sH σ7 (r2) = some (.inl (9, fs)) ∧ ∃ (r11 : Int) (σ10 : mx_S), mx_MS Y9_runsOfTurned [mR r2] σ7 (.inl (some (mI r11), σ10)) ∧ sK σ10 ≤ kb ∧ sW σ10 ≤ wb ∧ vf_n32 (FP.fdiv (FP.i2f (Int32.ofInt (r11))) (FP.i2f (Int32.ofInt (r8)))) ∧ Q (.inl (some (mF (FP.fdiv (FP.i2f (Int32.ofInt (r11))) (FP.i2f (Int32.ofInt (r8))))), σ10))) ∧ (¬ ((1 : Int) ≤ r8) → sK σ7 + 1 ≤ kb ∧ sW σ7 + 6 ≤ wb ∧ Q (.inr ("java/util/NoSuchElementException", (sB σ7, sH σ7, sN σ7, sK σ7 + 1, sW σ7 + 6))))) ∨ (∃ (E13 : String) (σ14 : mx_S), mx_MS Y10_orderedView [mR l0, mI l1] σ (.inr (E13, σ14)) ∧ sK σ14 ≤ kb ∧ sW σ14 ≤ wb ∧ Q (.inr (E13, σ14))))) : mx_J Y10_runShare kb wb 0 [some (mR l0), some (mI l1), none, none] [] σ Q := by
  refine mj_aload_n (k := 0) dX10_runShare_0 rfl rfl ?_
  refine mj_iload_n (k := 1) dX10_runShare_1 rfl rfl ?_
  obtain ⟨fs3, hbfs3, K⟩ := K
  rcases K with ⟨r2, σ1, hMσ1, hkσ1, hwσ1, K⟩ | ⟨E13, σ14, hMσ14, hkσ14, hwσ14, K⟩
  · refine mj_callV (As := [mI l1]) (rest := []) (b := l0) dX10_runShare_2 k_Y10_runShare_178 rfl hbfs3 rfl (Nat.le_of_ble_eq_true rfl) hMσ1 hkσ1 hwσ1 ?_
    refine mj_astore_n (k := 2) (ls' := [some (mR l0), some (mI l1), some (mR r2), none]) dX10_runShare_5 rfl (by decide) rfl ?_
    refine mj_aload_n (k := 2) dX10_runShare_6 rfl rfl ?_
    obtain ⟨fs6, hbfs6, K⟩ := K
    obtain ⟨r5, σ4, hMσ4, hkσ4, hwσ4, K⟩ := K
    refine mj_callV (As := []) (rest := []) (b := r2) dX10_runShare_7 k_Y10_runShare_102 rfl hbfs6 rfl (Nat.le_of_ble_eq_true rfl) hMσ4 hkσ4 hwσ4 ?_
    obtain ⟨fs9, hbfs9, K⟩ := K
    obtain ⟨r8, σ7, hMσ7, hkσ7, hwσ7, K⟩ := K
    refine mj_callV (As := []) (rest := []) (b := r5) dX10_runShare_10 k_Y10_runShare_215 rfl hbfs9 rfl (Nat.le_of_ble_eq_true rfl) hMσ7 hkσ7 hwσ7 ?_
    refine mj_istore_n (k := 3) (ls' := [some (mR l0), some (mI l1), some (mR r2), some (mI r8)]) dX10_runShare_13 rfl (by decide) rfl ?_
    refine mj_iload_n (k := 3) dX10_runShare_14 rfl rfl ?_
    refine mj_iconst dX10_runShare_15 ⟨by decide, by decide⟩ ?_
    refine mj_icmp_ge (tgt := 30) dX10_runShare_16 (by decide) ⟨fun h => ?_, fun h => ?_⟩
    · replace K := K.1 h
      refine mj_aload_n (k := 2) dX10_runShare_30 rfl rfl ?_
      obtain ⟨fs12, hbfs12, K⟩ := K
      obtain ⟨r11, σ10, hMσ10, hkσ10, hwσ10, K⟩ := K
      refine mj_callV (As := []) (rest := []) (b := r2) dX10_runShare_31 k_Y10_runShare_207 rfl hbfs12 rfl (Nat.le_of_ble_eq_true rfl) hMσ10 hkσ10 hwσ10 ?_
      refine mj_i2f dX10_runShare_34 ?_
      refine mj_iload_n (k := 3) dX10_runShare_35 rfl rfl ?_
      refine mj_i2f dX10_runShare_36 ?_
      obtain ⟨hne, K⟩ := K
      refine mj_fdiv dX10_runShare_37 hne ?_
      exact mj_ret (v := some (mF (FP.fdiv (FP.i2f (Int32.ofInt (r11))) (FP.i2f (Int32.ofInt (r8)))))) ⟨dX10_runShare_38, rfl⟩ K
    · replace K := K.2 h
      exact mj_thr tn_Y10_runShare_19 K.1 K.2.1 K.2.2
  · exact mj_callVX_out (As := [mI l1]) (rest := []) (b := l0) dX10_runShare_2 k_Y10_runShare_178 rfl hbfs3 rfl (Nat.le_of_ble_eq_true rfl) hMσ14 hkσ14 hwσ14 (fun z hz => by cases hz) K
theorem B_Y10_isSound_0 {kb wb : Nat} {σ : mx_S} {Q : mx_R → Prop} {l0 : Nat} (K : ∃ (fs : List mx_V), sH σ (l0) = some (.inl (10, fs)) ∧ ∃ x2, fs[1]? = some (mR x2) ∧ ∃ (fs : List mx_V), sH σ (x2) = some (.inl (2, fs)) ∧ ∃ (r4 : Int) (σ3 : mx_S), mx_MS Y2_isWhole [mR x2] σ (.inl (some (mI r4), σ3)) ∧ sK σ3 ≤ kb ∧ sW σ3 ≤ wb ∧ 0 ≤ r4 ∧ r4 ≤ 1 ∧ Q (.inl (some (mI r4), σ3))) : mx_J Y10_isSound kb wb 0 [some (mR l0)] [] σ Q := by
  refine mj_aload_n (k := 0) dX10_isSound_0 rfl rfl ?_
  obtain ⟨fs1, hffs1, x2, hxx2, K⟩ := K
  refine mj_get dX10_isSound_1 lf_Y10_isSound_19 hffs1 hxx2 ?_
  obtain ⟨fs5, hbfs5, K⟩ := K
  obtain ⟨r4, σ3, hMσ3, hkσ3, hwσ3, K⟩ := K
  refine mj_callV (As := []) (rest := []) (b := x2) dX10_isSound_4 k_Y10_isSound_387 rfl hbfs5 rfl (Nat.le_of_ble_eq_true rfl) hMσ3 hkσ3 hwσ3 ?_
  exact mj_ret (v := some (mI r4)) ⟨dX10_isSound_7, .boolean, rfl, mx_nbo K.1 K.2.1⟩ K.2.2
theorem B_YL_cell_0 {kb wb : Nat} {σ : mx_S} {Q : mx_R → Prop} {l0 : Nat} {l1 : Int} (K : ∃ (kd n1 : Nat) (f : Nat → mx_V), sH σ (l0) = some (.inr (kd, n1, f)) ∧ ((n1 : Int) ≤ l1 → mx_J YL_cell kb wb 15 [some (mR l0), some (mI l1), none] [mI ((0 : Int)), mI ((69069 : Int))] σ Q) ∧ (¬ ((n1 : Int) ≤ l1) → ∃ (n2 : Nat) (f : Nat → mx_V), sH σ (l0) = some (.inr (0, n2, f)) ∧ 0 ≤ l1 ∧ l1 < (n2 : Int) ∧ ∃ x3, f (l1).toNat = mI x3 ∧ mx_J YL_cell kb wb 15 [some (mR l0), some (mI l1), none] [mI x3, mI ((69069 : Int))] σ Q)) : mx_J YL_cell kb wb 0 [some (mR l0), some (mI l1), none] [] σ Q := by
  refine mj_ldc (n := (69069 : Int)) dL_cell_0 ⟨by decide, by decide⟩ w_852 ?_
  refine mj_iload_n (k := 1) dL_cell_2 rfl rfl ?_
  refine mj_aload_n (k := 0) dL_cell_3 rfl rfl ?_
  obtain ⟨kd, n1, fn1, hfn1, K⟩ := K
  refine mj_alen dL_cell_4 hfn1 ?_
  refine mj_icmp_ge (tgt := 14) dL_cell_5 (by decide) ⟨fun h => ?_, fun h => ?_⟩
  · replace K := K.1 h
    refine mj_iconst dL_cell_14 ⟨by decide, by decide⟩ ?_
    exact K
  · replace K := K.2 h
    refine mj_aload_n (k := 0) dL_cell_8 rfl rfl ?_
    refine mj_iload_n (k := 1) dL_cell_9 rfl rfl ?_
    obtain ⟨n2, fn2, hfn2, h0n2, h1n2, x3, hxx3, K⟩ := K
    refine mj_iald dL_cell_10 hfn2 h0n2 h1n2 ?_
    rw [hxx3]
    refine mj_goto (tgt := 15) dL_cell_11 (by decide) ?_
    exact K
theorem B_YL_cell_15 {kb wb : Nat} {σ : mx_S} {Q : mx_R → Prop} {l0 : Nat} {l1 : Int} {s0 : Int} {s1 : Int} (K : Q (.inl (some (mI (mx_xor (mx_w (mx_xor (mx_w (mx_w (s1 * mx_w (s0 + mx_w ((1009 : Int) * l1))) + (12345 : Int))) (mx_ushr (mx_w (mx_w (s1 * mx_w (s0 + mx_w ((1009 : Int) * l1))) + (12345 : Int))) ((13 : Int))) * (1103515245 : Int))) (mx_ushr (mx_w (mx_xor (mx_w (mx_w (s1 * mx_w (s0 + mx_w ((1009 : Int) * l1))) + (12345 : Int))) (mx_ushr (mx_w (mx_w (s1 * mx_w (s0 + mx_w ((1009 : Int) * l1))) + (12345 : Int))) ((13 : Int))) * (1103515245 : Int))) ((16 : Int))))), σ))) : mx_J YL_cell kb wb 15 [some (mR l0), some (mI l1), none] [mI s0, mI s1] σ Q := by
  refine mj_sipush (n := 1009) dL_cell_15 ⟨by decide, by decide⟩ (by decide) ?_
  refine mj_iload_n (k := 1) dL_cell_18 rfl rfl ?_
  refine mj_imul dL_cell_19 ?_
  refine mj_iadd dL_cell_20 ?_
  refine mj_imul dL_cell_21 ?_
  refine mj_sipush (n := 12345) dL_cell_22 ⟨by decide, by decide⟩ (by decide) ?_
  refine mj_iadd dL_cell_25 ?_
  refine mj_istore_n (k := 2) (ls' := [some (mR l0), some (mI l1), some (mI (mx_w (mx_w (s1 * mx_w (s0 + mx_w ((1009 : Int) * l1))) + (12345 : Int))))]) dL_cell_26 rfl (by decide) rfl ?_
  refine mj_iload_n (k := 2) dL_cell_27 rfl rfl ?_
  refine mj_iload_n (k := 2) dL_cell_28 rfl rfl ?_
  refine mj_bipush (n := 13) dL_cell_29 ⟨by decide, by decide⟩ (by decide) ?_
  refine mj_iushr dL_cell_31 ?_
  refine mj_ixor dL_cell_32 ?_
  refine mj_ldc (n := (1103515245 : Int)) dL_cell_33 ⟨by decide, by decide⟩ w_853 ?_
  refine mj_imul dL_cell_35 ?_
  refine mj_istore_n (k := 2) (ls' := [some (mR l0), some (mI l1), some (mI (mx_w (mx_xor (mx_w (mx_w (s1 * mx_w (s0 + mx_w ((1009 : Int) * l1))) + (12345 : Int))) (mx_ushr (mx_w (mx_w (s1 * mx_w (s0 + mx_w ((1009 : Int) * l1))) + (12345 : Int))) ((13 : Int))) * (1103515245 : Int))))]) dL_cell_36 rfl (by decide) rfl ?_
  refine mj_iload_n (k := 2) dL_cell_37 rfl rfl ?_
  refine mj_iload_n (k := 2) dL_cell_38 rfl rfl ?_
  refine mj_bipush (n := 16) dL_cell_39 ⟨by decide, by decide⟩ (by decide) ?_
  refine mj_iushr dL_cell_41 ?_
  refine mj_ixor dL_cell_42 ?_
  exact mj_ret (v := some (mI (mx_xor (mx_w (mx_xor (mx_w (mx_w (s1 * mx_w (s0 + mx_w ((1009 : Int) * l1))) + (12345 : Int))) (mx_ushr (mx_w (mx_w (s1 * mx_w (s0 + mx_w ((1009 : Int) * l1))) + (12345 : Int))) ((13 : Int))) * (1103515245 : Int))) (mx_ushr (mx_w (mx_xor (mx_w (mx_w (s1 * mx_w (s0 + mx_w ((1009 : Int) * l1))) + (12345 : Int))) (mx_ushr (mx_w (mx_w (s1 * mx_w (s0 + mx_w ((1009 : Int) * l1))) + (12345 : Int))) ((13 : Int))) * (1103515245 : Int))) ((16 : Int)))))) ⟨dL_cell_43, .int, rfl, rfl⟩ K
theorem B_YL_type_0 {kb wb : Nat} {σ : mx_S} {Q : mx_R → Prop} {l0 : Nat} {l1 : Int} (K : ∃ (fs : List mx_V), sH σ (l0) = some (.inl (10, fs)) ∧ ((∃ (r2 : Int) (σ1 : mx_S), mx_MS Y10_type [mR l0, mI l1] σ (.inl (some (mI r2), σ1)) ∧ sK σ1 ≤ kb ∧ sW σ1 ≤ wb ∧ Q (.inl (some (mI r2), σ1))) ∨ (∃ (σ4 : mx_S), mx_MS Y10_type [mR l0, mI l1] σ (.inr ("java/lang/IllegalArgumentException", σ4)) ∧ sK σ4 ≤ kb ∧ sW σ4 ≤ wb ∧ ∀ (n5 q6 : Nat) (σ7 : mx_S), sN σ4 ≤ n5 → σ7 = mx_at_n σ4 n5 → Q (.inl (some (mI ((-900001 : Int))), σ7))) ∨ (∃ (σ8 : mx_S), mx_MS Y10_type [mR l0, mI l1] σ (.inr ("java/lang/IllegalStateException", σ8)) ∧ sK σ8 ≤ kb ∧ sW σ8 ≤ wb ∧ ∀ (n9 q10 : Nat) (σ11 : mx_S), sN σ8 ≤ n9 → σ11 = mx_at_n σ8 n9 → Q (.inl (some (mI ((-900002 : Int))), σ11))))) : mx_J YL_type kb wb 0 [some (mR l0), some (mI l1), none] [] σ Q := by
  refine mj_aload_n (k := 0) dL_type_0 rfl rfl ?_
  refine mj_iload_n (k := 1) dL_type_1 rfl rfl ?_
  obtain ⟨fs3, hbfs3, K⟩ := K
  rcases K with ⟨r2, σ1, hMσ1, hkσ1, hwσ1, K⟩ | ⟨σ4, hMσ4, hkσ4, hwσ4, K⟩ | ⟨σ8, hMσ8, hkσ8, hwσ8, K⟩
  · refine mj_callV (As := [mI l1]) (rest := []) (b := l0) dL_type_2 k_YL_type_9 rfl hbfs3 rfl (Nat.le_of_ble_eq_true rfl) hMσ1 hkσ1 hwσ1 ?_
    exact mj_ret (v := some (mI r2)) ⟨dL_type_5, .int, rfl, rfl⟩ K
  · refine mj_callVX_in (As := [mI l1]) (rest := []) (b := l0) dL_type_2 k_YL_type_9 rfl hbfs3 rfl (Nat.le_of_ble_eq_true rfl) hMσ4 hkσ4 hwσ4 ch_YL_type_2_0 (fun n5 q6 hn9 => ?_)
    replace K := K n5 q6 _ hn9 rfl
    generalize mx_at_n σ4 n5 = σ7 at K ⊢
    refine mj_astore_n (k := 2) (ls' := [some (mR l0), some (mI l1), some (mR q6)]) dL_type_6 rfl (by decide) rfl ?_
    refine mj_ldc (n := (-900001 : Int)) dL_type_7 ⟨by decide, by decide⟩ w_557 ?_
    exact mj_ret (v := some (mI ((-900001 : Int)))) ⟨dL_type_9, .int, rfl, rfl⟩ K
  · refine mj_callVX_in (As := [mI l1]) (rest := []) (b := l0) dL_type_2 k_YL_type_9 rfl hbfs3 rfl (Nat.le_of_ble_eq_true rfl) hMσ8 hkσ8 hwσ8 ch_YL_type_2_1 (fun n9 q10 hn9 => ?_)
    replace K := K n9 q10 _ hn9 rfl
    generalize mx_at_n σ8 n9 = σ11 at K ⊢
    refine mj_astore_n (k := 2) (ls' := [some (mR l0), some (mI l1), some (mR q10)]) dL_type_10 rfl (by decide) rfl ?_
    refine mj_ldc (n := (-900002 : Int)) dL_type_11 ⟨by decide, by decide⟩ w_558 ?_
    exact mj_ret (v := some (mI ((-900002 : Int)))) ⟨dL_type_13, .int, rfl, rfl⟩ K
theorem B_YL_add_0 {kb wb : Nat} {σ : mx_S} {Q : mx_R → Prop} {l0 : Nat} (K : ∃ (fs : List mx_V), sH σ (l0) = some (.inl (10, fs)) ∧ ((∃ (r2 : Int) (σ1 : mx_S), mx_MS Y10_add [mR l0] σ (.inl (some (mI r2), σ1)) ∧ sK σ1 ≤ kb ∧ sW σ1 ≤ wb ∧ Q (.inl (some (mI r2), σ1))) ∨ (∃ (σ4 : mx_S), mx_MS Y10_add [mR l0] σ (.inr ("java/lang/UnsupportedOperationException", σ4)) ∧ sK σ4 ≤ kb ∧ sW σ4 ≤ wb ∧ ∀ (n5 q6 : Nat) (σ7 : mx_S), sN σ4 ≤ n5 → σ7 = mx_at_n σ4 n5 → Q (.inl (some (mI ((-900001 : Int))), σ7))) ∨ (∃ (σ8 : mx_S), mx_MS Y10_add [mR l0] σ (.inr ("java/lang/IllegalStateException", σ8)) ∧ sK σ8 ≤ kb ∧ sW σ8 ≤ wb ∧ ∀ (n9 q10 : Nat) (σ11 : mx_S), sN σ8 ≤ n9 → σ11 = mx_at_n σ8 n9 → Q (.inl (some (mI ((-900002 : Int))), σ11))))) : mx_J YL_add kb wb 0 [some (mR l0), none] [] σ Q := by
  refine mj_aload_n (k := 0) dL_add_0 rfl rfl ?_
  obtain ⟨fs3, hbfs3, K⟩ := K
  rcases K with ⟨r2, σ1, hMσ1, hkσ1, hwσ1, K⟩ | ⟨σ4, hMσ4, hkσ4, hwσ4, K⟩ | ⟨σ8, hMσ8, hkσ8, hwσ8, K⟩
  · refine mj_callV (As := []) (rest := []) (b := l0) dL_add_1 k_YL_add_21 rfl hbfs3 rfl (Nat.le_of_ble_eq_true rfl) hMσ1 hkσ1 hwσ1 ?_
    exact mj_ret (v := some (mI r2)) ⟨dL_add_4, .int, rfl, rfl⟩ K
  · refine mj_callVX_in (As := []) (rest := []) (b := l0) dL_add_1 k_YL_add_21 rfl hbfs3 rfl (Nat.le_of_ble_eq_true rfl) hMσ4 hkσ4 hwσ4 ch_YL_add_1_0 (fun n5 q6 hn9 => ?_)
    replace K := K n5 q6 _ hn9 rfl
    generalize mx_at_n σ4 n5 = σ7 at K ⊢
    refine mj_astore_n (k := 1) (ls' := [some (mR l0), some (mR q6)]) dL_add_5 rfl (by decide) rfl ?_
    refine mj_ldc (n := (-900001 : Int)) dL_add_6 ⟨by decide, by decide⟩ w_557 ?_
    exact mj_ret (v := some (mI ((-900001 : Int)))) ⟨dL_add_8, .int, rfl, rfl⟩ K
  · refine mj_callVX_in (As := []) (rest := []) (b := l0) dL_add_1 k_YL_add_21 rfl hbfs3 rfl (Nat.le_of_ble_eq_true rfl) hMσ8 hkσ8 hwσ8 ch_YL_add_1_1 (fun n9 q10 hn9 => ?_)
    replace K := K n9 q10 _ hn9 rfl
    generalize mx_at_n σ8 n9 = σ11 at K ⊢
    refine mj_astore_n (k := 1) (ls' := [some (mR l0), some (mR q10)]) dL_add_9 rfl (by decide) rfl ?_
    refine mj_ldc (n := (-900002 : Int)) dL_add_10 ⟨by decide, by decide⟩ w_558 ?_
    exact mj_ret (v := some (mI ((-900002 : Int)))) ⟨dL_add_12, .int, rfl, rfl⟩ K
theorem B_YL_insert_0 {kb wb : Nat} {σ : mx_S} {Q : mx_R → Prop} {l0 : Nat} {l1 : Int} {l2 : Int} (K : ∃ (fs : List mx_V), sH σ (l0) = some (.inl (10, fs)) ∧ ((∃ (r2 : Int) (σ1 : mx_S), mx_MS Y10_insert [mR l0, mI l1, mI l2] σ (.inl (some (mI r2), σ1)) ∧ sK σ1 ≤ kb ∧ sW σ1 ≤ wb ∧ Q (.inl (some (mI r2), σ1))) ∨ (∃ (σ4 : mx_S), mx_MS Y10_insert [mR l0, mI l1, mI l2] σ (.inr ("java/lang/IndexOutOfBoundsException", σ4)) ∧ sK σ4 ≤ kb ∧ sW σ4 ≤ wb ∧ ∀ (n5 q6 : Nat) (σ7 : mx_S), sN σ4 ≤ n5 → σ7 = mx_at_n σ4 n5 → Q (.inl (some (mI ((-900001 : Int))), σ7))) ∨ (∃ (σ8 : mx_S), mx_MS Y10_insert [mR l0, mI l1, mI l2] σ (.inr ("java/lang/UnsupportedOperationException", σ8)) ∧ sK σ8 ≤ kb ∧ sW σ8 ≤ wb ∧ ∀ (n9 q10 : Nat) (σ11 : mx_S), sN σ8 ≤ n9 → σ11 = mx_at_n σ8 n9 → Q (.inl (some (mI ((-900002 : Int))), σ11))) ∨ (∃ (σ12 : mx_S), mx_MS Y10_insert [mR l0, mI l1, mI l2] σ (.inr ("java/lang/IllegalArgumentException", σ12)) ∧ sK σ12 ≤ kb ∧ sW σ12 ≤ wb ∧ ∀ (n13 q14 : Nat) (σ15 : mx_S), sN σ12 ≤ n13 → σ15 = mx_at_n σ12 n13 → Q (.inl (some (mI ((-900003 : Int))), σ15))))) : mx_J YL_insert kb wb 0 [some (mR l0), some (mI l1), some (mI l2), none] [] σ Q := by
  refine mj_aload_n (k := 0) dL_insert_0 rfl rfl ?_
  refine mj_iload_n (k := 1) dL_insert_1 rfl rfl ?_
  refine mj_iload_n (k := 2) dL_insert_2 rfl rfl ?_
  obtain ⟨fs3, hbfs3, K⟩ := K
  rcases K with ⟨r2, σ1, hMσ1, hkσ1, hwσ1, K⟩ | ⟨σ4, hMσ4, hkσ4, hwσ4, K⟩ | ⟨σ8, hMσ8, hkσ8, hwσ8, K⟩ | ⟨σ12, hMσ12, hkσ12, hwσ12, K⟩
  · refine mj_callV (As := [mI l1, mI l2]) (rest := []) (b := l0) dL_insert_3 k_YL_insert_27 rfl hbfs3 rfl (Nat.le_of_ble_eq_true rfl) hMσ1 hkσ1 hwσ1 ?_
    exact mj_ret (v := some (mI r2)) ⟨dL_insert_6, .int, rfl, rfl⟩ K
  · refine mj_callVX_in (As := [mI l1, mI l2]) (rest := []) (b := l0) dL_insert_3 k_YL_insert_27 rfl hbfs3 rfl (Nat.le_of_ble_eq_true rfl) hMσ4 hkσ4 hwσ4 ch_YL_insert_3_0 (fun n5 q6 hn9 => ?_)
    replace K := K n5 q6 _ hn9 rfl
    generalize mx_at_n σ4 n5 = σ7 at K ⊢
    refine mj_astore_n (k := 3) (ls' := [some (mR l0), some (mI l1), some (mI l2), some (mR q6)]) dL_insert_7 rfl (by decide) rfl ?_
    refine mj_ldc (n := (-900001 : Int)) dL_insert_8 ⟨by decide, by decide⟩ w_557 ?_
    exact mj_ret (v := some (mI ((-900001 : Int)))) ⟨dL_insert_10, .int, rfl, rfl⟩ K
  · refine mj_callVX_in (As := [mI l1, mI l2]) (rest := []) (b := l0) dL_insert_3 k_YL_insert_27 rfl hbfs3 rfl (Nat.le_of_ble_eq_true rfl) hMσ8 hkσ8 hwσ8 ch_YL_insert_3_1 (fun n9 q10 hn9 => ?_)
    replace K := K n9 q10 _ hn9 rfl
    generalize mx_at_n σ8 n9 = σ11 at K ⊢
    refine mj_astore_n (k := 3) (ls' := [some (mR l0), some (mI l1), some (mI l2), some (mR q10)]) dL_insert_11 rfl (by decide) rfl ?_
    refine mj_ldc (n := (-900002 : Int)) dL_insert_12 ⟨by decide, by decide⟩ w_558 ?_
    exact mj_ret (v := some (mI ((-900002 : Int)))) ⟨dL_insert_14, .int, rfl, rfl⟩ K
  · refine mj_callVX_in (As := [mI l1, mI l2]) (rest := []) (b := l0) dL_insert_3 k_YL_insert_27 rfl hbfs3 rfl (Nat.le_of_ble_eq_true rfl) hMσ12 hkσ12 hwσ12 ch_YL_insert_3_2 (fun n13 q14 hn9 => ?_)
    replace K := K n13 q14 _ hn9 rfl
    generalize mx_at_n σ12 n13 = σ15 at K ⊢
    refine mj_astore_n (k := 3) (ls' := [some (mR l0), some (mI l1), some (mI l2), some (mR q14)]) dL_insert_15 rfl (by decide) rfl ?_
    refine mj_ldc (n := (-900003 : Int)) dL_insert_16 ⟨by decide, by decide⟩ w_675 ?_
    exact mj_ret (v := some (mI ((-900003 : Int)))) ⟨dL_insert_18, .int, rfl, rfl⟩ K
theorem B_YL_documents_0 {kb wb : Nat} {σ : mx_S} {Q : mx_R → Prop} {l0 : Nat} {l1 : Int} (K : ∃ (fs : List mx_V), sH σ (l0) = some (.inl (10, fs)) ∧ ((∃ (r2 : Int) (σ1 : mx_S), mx_MS Y10_documents [mR l0, mI l1] σ (.inl (some (mI r2), σ1)) ∧ sK σ1 ≤ kb ∧ sW σ1 ≤ wb ∧ Q (.inl (some (mI r2), σ1))) ∨ (∃ (σ4 : mx_S), mx_MS Y10_documents [mR l0, mI l1] σ (.inr ("java/lang/IndexOutOfBoundsException", σ4)) ∧ sK σ4 ≤ kb ∧ sW σ4 ≤ wb ∧ ∀ (n5 q6 : Nat) (σ7 : mx_S), sN σ4 ≤ n5 → σ7 = mx_at_n σ4 n5 → Q (.inl (some (mI ((-900001 : Int))), σ7))))) : mx_J YL_documents kb wb 0 [some (mR l0), some (mI l1), none] [] σ Q := by
  refine mj_aload_n (k := 0) dL_documents_0 rfl rfl ?_
  refine mj_iload_n (k := 1) dL_documents_1 rfl rfl ?_
  obtain ⟨fs3, hbfs3, K⟩ := K
  rcases K with ⟨r2, σ1, hMσ1, hkσ1, hwσ1, K⟩ | ⟨σ4, hMσ4, hkσ4, hwσ4, K⟩
  · refine mj_callV (As := [mI l1]) (rest := []) (b := l0) dL_documents_2 k_YL_documents_34 rfl hbfs3 rfl (Nat.le_of_ble_eq_true rfl) hMσ1 hkσ1 hwσ1 ?_
    exact mj_ret (v := some (mI r2)) ⟨dL_documents_5, .int, rfl, rfl⟩ K
  · refine mj_callVX_in (As := [mI l1]) (rest := []) (b := l0) dL_documents_2 k_YL_documents_34 rfl hbfs3 rfl (Nat.le_of_ble_eq_true rfl) hMσ4 hkσ4 hwσ4 ch_YL_documents_2_0 (fun n5 q6 hn9 => ?_)
    replace K := K n5 q6 _ hn9 rfl
    generalize mx_at_n σ4 n5 = σ7 at K ⊢
    refine mj_astore_n (k := 2) (ls' := [some (mR l0), some (mI l1), some (mR q6)]) dL_documents_6 rfl (by decide) rfl ?_
    refine mj_ldc (n := (-900001 : Int)) dL_documents_7 ⟨by decide, by decide⟩ w_557 ?_
    exact mj_ret (v := some (mI ((-900001 : Int)))) ⟨dL_documents_9, .int, rfl, rfl⟩ K
theorem B_YL_lengthOf_0 {kb wb : Nat} {σ : mx_S} {Q : mx_R → Prop} {l0 : Nat} {l1 : Int} {l2 : Int} (K : ∃ (fs : List mx_V), sH σ (l0) = some (.inl (10, fs)) ∧ ((∃ (r2 : Int) (σ1 : mx_S), mx_MS Y10_lengthOf [mR l0, mI l1, mI l2] σ (.inl (some (mI r2), σ1)) ∧ sK σ1 ≤ kb ∧ sW σ1 ≤ wb ∧ Q (.inl (some (mI r2), σ1))) ∨ (∃ (σ4 : mx_S), mx_MS Y10_lengthOf [mR l0, mI l1, mI l2] σ (.inr ("java/lang/IndexOutOfBoundsException", σ4)) ∧ sK σ4 ≤ kb ∧ sW σ4 ≤ wb ∧ ∀ (n5 q6 : Nat) (σ7 : mx_S), sN σ4 ≤ n5 → σ7 = mx_at_n σ4 n5 → Q (.inl (some (mI ((-900001 : Int))), σ7))))) : mx_J YL_lengthOf kb wb 0 [some (mR l0), some (mI l1), some (mI l2), none] [] σ Q := by
  refine mj_aload_n (k := 0) dL_lengthOf_0 rfl rfl ?_
  refine mj_iload_n (k := 1) dL_lengthOf_1 rfl rfl ?_
  refine mj_iload_n (k := 2) dL_lengthOf_2 rfl rfl ?_
  obtain ⟨fs3, hbfs3, K⟩ := K
  rcases K with ⟨r2, σ1, hMσ1, hkσ1, hwσ1, K⟩ | ⟨σ4, hMσ4, hkσ4, hwσ4, K⟩
  · refine mj_callV (As := [mI l1, mI l2]) (rest := []) (b := l0) dL_lengthOf_3 k_YL_lengthOf_38 rfl hbfs3 rfl (Nat.le_of_ble_eq_true rfl) hMσ1 hkσ1 hwσ1 ?_
    exact mj_ret (v := some (mI r2)) ⟨dL_lengthOf_6, .int, rfl, rfl⟩ K
  · refine mj_callVX_in (As := [mI l1, mI l2]) (rest := []) (b := l0) dL_lengthOf_3 k_YL_lengthOf_38 rfl hbfs3 rfl (Nat.le_of_ble_eq_true rfl) hMσ4 hkσ4 hwσ4 ch_YL_lengthOf_3_0 (fun n5 q6 hn9 => ?_)
    replace K := K n5 q6 _ hn9 rfl
    generalize mx_at_n σ4 n5 = σ7 at K ⊢
    refine mj_astore_n (k := 3) (ls' := [some (mR l0), some (mI l1), some (mI l2), some (mR q6)]) dL_lengthOf_7 rfl (by decide) rfl ?_
    refine mj_ldc (n := (-900001 : Int)) dL_lengthOf_8 ⟨by decide, by decide⟩ w_557 ?_
    exact mj_ret (v := some (mI ((-900001 : Int)))) ⟨dL_lengthOf_10, .int, rfl, rfl⟩ K
theorem B_YL_snapshot_0 {kb wb : Nat} {σ : mx_S} {Q : mx_R → Prop} {l0 : Nat} (K : ∃ (fs : List mx_V), sH σ (l0) = some (.inl (10, fs)) ∧ ((∃ (r2 : Int) (σ1 : mx_S), mx_MS Y10_snapshot [mR l0] σ (.inl (some (mI r2), σ1)) ∧ sK σ1 ≤ kb ∧ sW σ1 ≤ wb ∧ Q (.inl (some (mI r2), σ1))) ∨ (∃ (σ4 : mx_S), mx_MS Y10_snapshot [mR l0] σ (.inr ("java/lang/IllegalStateException", σ4)) ∧ sK σ4 ≤ kb ∧ sW σ4 ≤ wb ∧ ∀ (n5 q6 : Nat) (σ7 : mx_S), sN σ4 ≤ n5 → σ7 = mx_at_n σ4 n5 → Q (.inl (some (mI ((-900001 : Int))), σ7))))) : mx_J YL_snapshot kb wb 0 [some (mR l0), none] [] σ Q := by
  refine mj_aload_n (k := 0) dL_snapshot_0 rfl rfl ?_
  obtain ⟨fs3, hbfs3, K⟩ := K
  rcases K with ⟨r2, σ1, hMσ1, hkσ1, hwσ1, K⟩ | ⟨σ4, hMσ4, hkσ4, hwσ4, K⟩
  · refine mj_callV (As := []) (rest := []) (b := l0) dL_snapshot_1 k_YL_snapshot_41 rfl hbfs3 rfl (Nat.le_of_ble_eq_true rfl) hMσ1 hkσ1 hwσ1 ?_
    exact mj_ret (v := some (mI r2)) ⟨dL_snapshot_4, .int, rfl, rfl⟩ K
  · refine mj_callVX_in (As := []) (rest := []) (b := l0) dL_snapshot_1 k_YL_snapshot_41 rfl hbfs3 rfl (Nat.le_of_ble_eq_true rfl) hMσ4 hkσ4 hwσ4 ch_YL_snapshot_1_0 (fun n5 q6 hn9 => ?_)
    replace K := K n5 q6 _ hn9 rfl
    generalize mx_at_n σ4 n5 = σ7 at K ⊢
    refine mj_astore_n (k := 1) (ls' := [some (mR l0), some (mR q6)]) dL_snapshot_5 rfl (by decide) rfl ?_
    refine mj_ldc (n := (-900001 : Int)) dL_snapshot_6 ⟨by decide, by decide⟩ w_557 ?_
    exact mj_ret (v := some (mI ((-900001 : Int)))) ⟨dL_snapshot_8, .int, rfl, rfl⟩ K
theorem B_YL_suffixAt_0 {kb wb : Nat} {σ : mx_S} {Q : mx_R → Prop} {l0 : Nat} {l1 : Int} {l2 : Int} {l3 : Int} (K : ∃ (fs : List mx_V), sH σ (l0) = some (.inl (10, fs)) ∧ ((∃ (r2 : Int) (σ1 : mx_S), mx_MS Y10_suffixAt [mR l0, mI l1, mI l2, mI l3] σ (.inl (some (mI r2), σ1)) ∧ sK σ1 ≤ kb ∧ sW σ1 ≤ wb ∧ Q (.inl (some (mI r2), σ1))) ∨ (∃ (σ4 : mx_S), mx_MS Y10_suffixAt [mR l0, mI l1, mI l2, mI l3] σ (.inr ("java/lang/IndexOutOfBoundsException", σ4)) ∧ sK σ4 ≤ kb ∧ sW σ4 ≤ wb ∧ ∀ (n5 q6 : Nat) (σ7 : mx_S), sN σ4 ≤ n5 → σ7 = mx_at_n σ4 n5 → Q (.inl (some (mI ((-900001 : Int))), σ7))) ∨ (∃ (σ8 : mx_S), mx_MS Y10_suffixAt [mR l0, mI l1, mI l2, mI l3] σ (.inr ("java/util/NoSuchElementException", σ8)) ∧ sK σ8 ≤ kb ∧ sW σ8 ≤ wb ∧ ∀ (n9 q10 : Nat) (σ11 : mx_S), sN σ8 ≤ n9 → σ11 = mx_at_n σ8 n9 → Q (.inl (some (mI ((-900002 : Int))), σ11))) ∨ (∃ (σ12 : mx_S), mx_MS Y10_suffixAt [mR l0, mI l1, mI l2, mI l3] σ (.inr ("java/lang/IllegalArgumentException", σ12)) ∧ sK σ12 ≤ kb ∧ sW σ12 ≤ wb ∧ ∀ (n13 q14 : Nat) (σ15 : mx_S), sN σ12 ≤ n13 → σ15 = mx_at_n σ12 n13 → Q (.inl (some (mI ((-900003 : Int))), σ15))))) : mx_J YL_suffixAt kb wb 0 [some (mR l0), some (mI l1), some (mI l2), some (mI l3), none] [] σ Q := by
  refine mj_aload_n (k := 0) dL_suffixAt_0 rfl rfl ?_
  refine mj_iload_n (k := 1) dL_suffixAt_1 rfl rfl ?_
  refine mj_iload_n (k := 2) dL_suffixAt_2 rfl rfl ?_
  refine mj_iload_n (k := 3) dL_suffixAt_3 rfl rfl ?_
  obtain ⟨fs3, hbfs3, K⟩ := K
  rcases K with ⟨r2, σ1, hMσ1, hkσ1, hwσ1, K⟩ | ⟨σ4, hMσ4, hkσ4, hwσ4, K⟩ | ⟨σ8, hMσ8, hkσ8, hwσ8, K⟩ | ⟨σ12, hMσ12, hkσ12, hwσ12, K⟩
  · refine mj_callV (As := [mI l1, mI l2, mI l3]) (rest := []) (b := l0) dL_suffixAt_4 k_YL_suffixAt_44 rfl hbfs3 rfl (Nat.le_of_ble_eq_true rfl) hMσ1 hkσ1 hwσ1 ?_
    exact mj_ret (v := some (mI r2)) ⟨dL_suffixAt_7, .int, rfl, rfl⟩ K
  · refine mj_callVX_in (As := [mI l1, mI l2, mI l3]) (rest := []) (b := l0) dL_suffixAt_4 k_YL_suffixAt_44 rfl hbfs3 rfl (Nat.le_of_ble_eq_true rfl) hMσ4 hkσ4 hwσ4 ch_YL_suffixAt_4_0 (fun n5 q6 hn9 => ?_)
    replace K := K n5 q6 _ hn9 rfl
    generalize mx_at_n σ4 n5 = σ7 at K ⊢
    refine mj_astore (k := 4) (ls' := [some (mR l0), some (mI l1), some (mI l2), some (mI l3), some (mR q6)]) dL_suffixAt_8 (by decide) rfl ?_
    refine mj_ldc (n := (-900001 : Int)) dL_suffixAt_10 ⟨by decide, by decide⟩ w_557 ?_
    exact mj_ret (v := some (mI ((-900001 : Int)))) ⟨dL_suffixAt_12, .int, rfl, rfl⟩ K
  · refine mj_callVX_in (As := [mI l1, mI l2, mI l3]) (rest := []) (b := l0) dL_suffixAt_4 k_YL_suffixAt_44 rfl hbfs3 rfl (Nat.le_of_ble_eq_true rfl) hMσ8 hkσ8 hwσ8 ch_YL_suffixAt_4_1 (fun n9 q10 hn9 => ?_)
    replace K := K n9 q10 _ hn9 rfl
    generalize mx_at_n σ8 n9 = σ11 at K ⊢
    refine mj_astore (k := 4) (ls' := [some (mR l0), some (mI l1), some (mI l2), some (mI l3), some (mR q10)]) dL_suffixAt_13 (by decide) rfl ?_
    refine mj_ldc (n := (-900002 : Int)) dL_suffixAt_15 ⟨by decide, by decide⟩ w_558 ?_
    exact mj_ret (v := some (mI ((-900002 : Int)))) ⟨dL_suffixAt_17, .int, rfl, rfl⟩ K
  · refine mj_callVX_in (As := [mI l1, mI l2, mI l3]) (rest := []) (b := l0) dL_suffixAt_4 k_YL_suffixAt_44 rfl hbfs3 rfl (Nat.le_of_ble_eq_true rfl) hMσ12 hkσ12 hwσ12 ch_YL_suffixAt_4_2 (fun n13 q14 hn9 => ?_)
    replace K := K n13 q14 _ hn9 rfl
    generalize mx_at_n σ12 n13 = σ15 at K ⊢
    refine mj_astore (k := 4) (ls' := [some (mR l0), some (mI l1), some (mI l2), some (mI l3), some (mR q14)]) dL_suffixAt_18 (by decide) rfl ?_
    refine mj_ldc (n := (-900003 : Int)) dL_suffixAt_20 ⟨by decide, by decide⟩ w_675 ?_
    exact mj_ret (v := some (mI ((-900003 : Int)))) ⟨dL_suffixAt_22, .int, rfl, rfl⟩ K
theorem B_YL_rankOf_0 {kb wb : Nat} {σ : mx_S} {Q : mx_R → Prop} {l0 : Nat} {l1 : Int} {l2 : Int} {l3 : Int} (K : ∃ (fs : List mx_V), sH σ (l0) = some (.inl (10, fs)) ∧ ((∃ (r2 : Int) (σ1 : mx_S), mx_MS Y10_rankOf [mR l0, mI l1, mI l2, mI l3] σ (.inl (some (mI r2), σ1)) ∧ sK σ1 ≤ kb ∧ sW σ1 ≤ wb ∧ Q (.inl (some (mI r2), σ1))) ∨ (∃ (σ4 : mx_S), mx_MS Y10_rankOf [mR l0, mI l1, mI l2, mI l3] σ (.inr ("java/lang/IndexOutOfBoundsException", σ4)) ∧ sK σ4 ≤ kb ∧ sW σ4 ≤ wb ∧ ∀ (n5 q6 : Nat) (σ7 : mx_S), sN σ4 ≤ n5 → σ7 = mx_at_n σ4 n5 → Q (.inl (some (mI ((-900001 : Int))), σ7))) ∨ (∃ (σ8 : mx_S), mx_MS Y10_rankOf [mR l0, mI l1, mI l2, mI l3] σ (.inr ("java/util/NoSuchElementException", σ8)) ∧ sK σ8 ≤ kb ∧ sW σ8 ≤ wb ∧ ∀ (n9 q10 : Nat) (σ11 : mx_S), sN σ8 ≤ n9 → σ11 = mx_at_n σ8 n9 → Q (.inl (some (mI ((-900002 : Int))), σ11))))) : mx_J YL_rankOf kb wb 0 [some (mR l0), some (mI l1), some (mI l2), some (mI l3), none] [] σ Q := by
  refine mj_aload_n (k := 0) dL_rankOf_0 rfl rfl ?_
  refine mj_iload_n (k := 1) dL_rankOf_1 rfl rfl ?_
  refine mj_iload_n (k := 2) dL_rankOf_2 rfl rfl ?_
  refine mj_iload_n (k := 3) dL_rankOf_3 rfl rfl ?_
  obtain ⟨fs3, hbfs3, K⟩ := K
  rcases K with ⟨r2, σ1, hMσ1, hkσ1, hwσ1, K⟩ | ⟨σ4, hMσ4, hkσ4, hwσ4, K⟩ | ⟨σ8, hMσ8, hkσ8, hwσ8, K⟩
  · refine mj_callV (As := [mI l1, mI l2, mI l3]) (rest := []) (b := l0) dL_rankOf_4 k_YL_rankOf_50 rfl hbfs3 rfl (Nat.le_of_ble_eq_true rfl) hMσ1 hkσ1 hwσ1 ?_
    exact mj_ret (v := some (mI r2)) ⟨dL_rankOf_7, .int, rfl, rfl⟩ K
  · refine mj_callVX_in (As := [mI l1, mI l2, mI l3]) (rest := []) (b := l0) dL_rankOf_4 k_YL_rankOf_50 rfl hbfs3 rfl (Nat.le_of_ble_eq_true rfl) hMσ4 hkσ4 hwσ4 ch_YL_rankOf_4_0 (fun n5 q6 hn9 => ?_)
    replace K := K n5 q6 _ hn9 rfl
    generalize mx_at_n σ4 n5 = σ7 at K ⊢
    refine mj_astore (k := 4) (ls' := [some (mR l0), some (mI l1), some (mI l2), some (mI l3), some (mR q6)]) dL_rankOf_8 (by decide) rfl ?_
    refine mj_ldc (n := (-900001 : Int)) dL_rankOf_10 ⟨by decide, by decide⟩ w_557 ?_
    exact mj_ret (v := some (mI ((-900001 : Int)))) ⟨dL_rankOf_12, .int, rfl, rfl⟩ K
  · refine mj_callVX_in (As := [mI l1, mI l2, mI l3]) (rest := []) (b := l0) dL_rankOf_4 k_YL_rankOf_50 rfl hbfs3 rfl (Nat.le_of_ble_eq_true rfl) hMσ8 hkσ8 hwσ8 ch_YL_rankOf_4_1 (fun n9 q10 hn9 => ?_)
    replace K := K n9 q10 _ hn9 rfl
    generalize mx_at_n σ8 n9 = σ11 at K ⊢
    refine mj_astore (k := 4) (ls' := [some (mR l0), some (mI l1), some (mI l2), some (mI l3), some (mR q10)]) dL_rankOf_13 (by decide) rfl ?_
    refine mj_ldc (n := (-900002 : Int)) dL_rankOf_15 ⟨by decide, by decide⟩ w_558 ?_
    exact mj_ret (v := some (mI ((-900002 : Int)))) ⟨dL_rankOf_17, .int, rfl, rfl⟩ K
theorem B_YL_turned_0 {kb wb : Nat} {σ : mx_S} {Q : mx_R → Prop} {l0 : Nat} {l1 : Int} {l2 : Int} (K : ∃ (fs : List mx_V), sH σ (l0) = some (.inl (10, fs)) ∧ ((∃ (r2 : Int) (σ1 : mx_S), mx_MS Y10_turned [mR l0, mI l1, mI l2] σ (.inl (some (mI r2), σ1)) ∧ sK σ1 ≤ kb ∧ sW σ1 ≤ wb ∧ Q (.inl (some (mI r2), σ1))) ∨ (∃ (σ4 : mx_S), mx_MS Y10_turned [mR l0, mI l1, mI l2] σ (.inr ("java/lang/IndexOutOfBoundsException", σ4)) ∧ sK σ4 ≤ kb ∧ sW σ4 ≤ wb ∧ ∀ (n5 q6 : Nat) (σ7 : mx_S), sN σ4 ≤ n5 → σ7 = mx_at_n σ4 n5 → Q (.inl (some (mI ((-900001 : Int))), σ7))) ∨ (∃ (σ8 : mx_S), mx_MS Y10_turned [mR l0, mI l1, mI l2] σ (.inr ("java/util/NoSuchElementException", σ8)) ∧ sK σ8 ≤ kb ∧ sW σ8 ≤ wb ∧ ∀ (n9 q10 : Nat) (σ11 : mx_S), sN σ8 ≤ n9 → σ11 = mx_at_n σ8 n9 → Q (.inl (some (mI ((-900002 : Int))), σ11))))) : mx_J YL_turned kb wb 0 [some (mR l0), some (mI l1), some (mI l2), none] [] σ Q := by
  refine mj_aload_n (k := 0) dL_turned_0 rfl rfl ?_
  refine mj_iload_n (k := 1) dL_turned_1 rfl rfl ?_
  refine mj_iload_n (k := 2) dL_turned_2 rfl rfl ?_
  obtain ⟨fs3, hbfs3, K⟩ := K
  rcases K with ⟨r2, σ1, hMσ1, hkσ1, hwσ1, K⟩ | ⟨σ4, hMσ4, hkσ4, hwσ4, K⟩ | ⟨σ8, hMσ8, hkσ8, hwσ8, K⟩
  · refine mj_callV (As := [mI l1, mI l2]) (rest := []) (b := l0) dL_turned_3 k_YL_turned_54 rfl hbfs3 rfl (Nat.le_of_ble_eq_true rfl) hMσ1 hkσ1 hwσ1 ?_
    exact mj_ret (v := some (mI r2)) ⟨dL_turned_6, .int, rfl, rfl⟩ K
  · refine mj_callVX_in (As := [mI l1, mI l2]) (rest := []) (b := l0) dL_turned_3 k_YL_turned_54 rfl hbfs3 rfl (Nat.le_of_ble_eq_true rfl) hMσ4 hkσ4 hwσ4 ch_YL_turned_3_0 (fun n5 q6 hn9 => ?_)
    replace K := K n5 q6 _ hn9 rfl
    generalize mx_at_n σ4 n5 = σ7 at K ⊢
    refine mj_astore_n (k := 3) (ls' := [some (mR l0), some (mI l1), some (mI l2), some (mR q6)]) dL_turned_7 rfl (by decide) rfl ?_
    refine mj_ldc (n := (-900001 : Int)) dL_turned_8 ⟨by decide, by decide⟩ w_557 ?_
    exact mj_ret (v := some (mI ((-900001 : Int)))) ⟨dL_turned_10, .int, rfl, rfl⟩ K
  · refine mj_callVX_in (As := [mI l1, mI l2]) (rest := []) (b := l0) dL_turned_3 k_YL_turned_54 rfl hbfs3 rfl (Nat.le_of_ble_eq_true rfl) hMσ8 hkσ8 hwσ8 ch_YL_turned_3_1 (fun n9 q10 hn9 => ?_)
    replace K := K n9 q10 _ hn9 rfl
    generalize mx_at_n σ8 n9 = σ11 at K ⊢
    refine mj_astore_n (k := 3) (ls' := [some (mR l0), some (mI l1), some (mI l2), some (mR q10)]) dL_turned_11 rfl (by decide) rfl ?_
    refine mj_ldc (n := (-900002 : Int)) dL_turned_12 ⟨by decide, by decide⟩ w_558 ?_
    exact mj_ret (v := some (mI ((-900002 : Int)))) ⟨dL_turned_14, .int, rfl, rfl⟩ K
theorem B_YL_runs_0 {kb wb : Nat} {σ : mx_S} {Q : mx_R → Prop} {l0 : Nat} {l1 : Int} (K : ∃ (fs : List mx_V), sH σ (l0) = some (.inl (10, fs)) ∧ ((∃ (r2 : Int) (σ1 : mx_S), mx_MS Y10_runs [mR l0, mI l1] σ (.inl (some (mI r2), σ1)) ∧ sK σ1 ≤ kb ∧ sW σ1 ≤ wb ∧ Q (.inl (some (mI r2), σ1))) ∨ (∃ (σ4 : mx_S), mx_MS Y10_runs [mR l0, mI l1] σ (.inr ("java/lang/IndexOutOfBoundsException", σ4)) ∧ sK σ4 ≤ kb ∧ sW σ4 ≤ wb ∧ ∀ (n5 q6 : Nat) (σ7 : mx_S), sN σ4 ≤ n5 → σ7 = mx_at_n σ4 n5 → Q (.inl (some (mI ((-900001 : Int))), σ7))))) : mx_J YL_runs kb wb 0 [some (mR l0), some (mI l1), none] [] σ Q := by
  refine mj_aload_n (k := 0) dL_runs_0 rfl rfl ?_
  refine mj_iload_n (k := 1) dL_runs_1 rfl rfl ?_
  obtain ⟨fs3, hbfs3, K⟩ := K
  rcases K with ⟨r2, σ1, hMσ1, hkσ1, hwσ1, K⟩ | ⟨σ4, hMσ4, hkσ4, hwσ4, K⟩
  · refine mj_callV (As := [mI l1]) (rest := []) (b := l0) dL_runs_2 k_YL_runs_58 rfl hbfs3 rfl (Nat.le_of_ble_eq_true rfl) hMσ1 hkσ1 hwσ1 ?_
    exact mj_ret (v := some (mI r2)) ⟨dL_runs_5, .int, rfl, rfl⟩ K
  · refine mj_callVX_in (As := [mI l1]) (rest := []) (b := l0) dL_runs_2 k_YL_runs_58 rfl hbfs3 rfl (Nat.le_of_ble_eq_true rfl) hMσ4 hkσ4 hwσ4 ch_YL_runs_2_0 (fun n5 q6 hn9 => ?_)
    replace K := K n5 q6 _ hn9 rfl
    generalize mx_at_n σ4 n5 = σ7 at K ⊢
    refine mj_astore_n (k := 2) (ls' := [some (mR l0), some (mI l1), some (mR q6)]) dL_runs_6 rfl (by decide) rfl ?_
    refine mj_ldc (n := (-900001 : Int)) dL_runs_7 ⟨by decide, by decide⟩ w_557 ?_
    exact mj_ret (v := some (mI ((-900001 : Int)))) ⟨dL_runs_9, .int, rfl, rfl⟩ K
theorem B_YL_ahead_0 {kb wb : Nat} {σ : mx_S} {Q : mx_R → Prop} {l0 : Nat} {l1 : Int} {l2 : Int} {l3 : Int} (K : ∃ (fs : List mx_V), sH σ (l0) = some (.inl (10, fs)) ∧ ((∃ (r2 : Int) (σ1 : mx_S), mx_MS Y10_ahead [mR l0, mI l1, mI l2, mI l3] σ (.inl (some (mI r2), σ1)) ∧ sK σ1 ≤ kb ∧ sW σ1 ≤ wb ∧ Q (.inl (some (mI r2), σ1))) ∨ (∃ (σ4 : mx_S), mx_MS Y10_ahead [mR l0, mI l1, mI l2, mI l3] σ (.inr ("java/lang/IndexOutOfBoundsException", σ4)) ∧ sK σ4 ≤ kb ∧ sW σ4 ≤ wb ∧ ∀ (n5 q6 : Nat) (σ7 : mx_S), sN σ4 ≤ n5 → σ7 = mx_at_n σ4 n5 → Q (.inl (some (mI ((-900001 : Int))), σ7))) ∨ (∃ (σ8 : mx_S), mx_MS Y10_ahead [mR l0, mI l1, mI l2, mI l3] σ (.inr ("java/lang/IllegalArgumentException", σ8)) ∧ sK σ8 ≤ kb ∧ sW σ8 ≤ wb ∧ ∀ (n9 q10 : Nat) (σ11 : mx_S), sN σ8 ≤ n9 → σ11 = mx_at_n σ8 n9 → Q (.inl (some (mI ((-900002 : Int))), σ11))))) : mx_J YL_ahead kb wb 0 [some (mR l0), some (mI l1), some (mI l2), some (mI l3), none] [] σ Q := by
  refine mj_aload_n (k := 0) dL_ahead_0 rfl rfl ?_
  refine mj_iload_n (k := 1) dL_ahead_1 rfl rfl ?_
  refine mj_iload_n (k := 2) dL_ahead_2 rfl rfl ?_
  refine mj_iload_n (k := 3) dL_ahead_3 rfl rfl ?_
  obtain ⟨fs3, hbfs3, K⟩ := K
  rcases K with ⟨r2, σ1, hMσ1, hkσ1, hwσ1, K⟩ | ⟨σ4, hMσ4, hkσ4, hwσ4, K⟩ | ⟨σ8, hMσ8, hkσ8, hwσ8, K⟩
  · refine mj_callV (As := [mI l1, mI l2, mI l3]) (rest := []) (b := l0) dL_ahead_4 k_YL_ahead_61 rfl hbfs3 rfl (Nat.le_of_ble_eq_true rfl) hMσ1 hkσ1 hwσ1 ?_
    exact mj_ret (v := some (mI r2)) ⟨dL_ahead_7, .int, rfl, rfl⟩ K
  · refine mj_callVX_in (As := [mI l1, mI l2, mI l3]) (rest := []) (b := l0) dL_ahead_4 k_YL_ahead_61 rfl hbfs3 rfl (Nat.le_of_ble_eq_true rfl) hMσ4 hkσ4 hwσ4 ch_YL_ahead_4_0 (fun n5 q6 hn9 => ?_)
    replace K := K n5 q6 _ hn9 rfl
    generalize mx_at_n σ4 n5 = σ7 at K ⊢
    refine mj_astore (k := 4) (ls' := [some (mR l0), some (mI l1), some (mI l2), some (mI l3), some (mR q6)]) dL_ahead_8 (by decide) rfl ?_
    refine mj_ldc (n := (-900001 : Int)) dL_ahead_10 ⟨by decide, by decide⟩ w_557 ?_
    exact mj_ret (v := some (mI ((-900001 : Int)))) ⟨dL_ahead_12, .int, rfl, rfl⟩ K
  · refine mj_callVX_in (As := [mI l1, mI l2, mI l3]) (rest := []) (b := l0) dL_ahead_4 k_YL_ahead_61 rfl hbfs3 rfl (Nat.le_of_ble_eq_true rfl) hMσ8 hkσ8 hwσ8 ch_YL_ahead_4_1 (fun n9 q10 hn9 => ?_)
    replace K := K n9 q10 _ hn9 rfl
    generalize mx_at_n σ8 n9 = σ11 at K ⊢
    refine mj_astore (k := 4) (ls' := [some (mR l0), some (mI l1), some (mI l2), some (mI l3), some (mR q10)]) dL_ahead_13 (by decide) rfl ?_
    refine mj_ldc (n := (-900002 : Int)) dL_ahead_15 ⟨by decide, by decide⟩ w_558 ?_
    exact mj_ret (v := some (mI ((-900002 : Int)))) ⟨dL_ahead_17, .int, rfl, rfl⟩ K
theorem B_YL_count_0 {kb wb : Nat} {σ : mx_S} {Q : mx_R → Prop} {l0 : Nat} {l1 : Int} (K : ∃ (fs : List mx_V), sH σ (l0) = some (.inl (10, fs)) ∧ ((∃ (r2 : Int) (σ1 : mx_S), mx_MS Y10_count [mR l0, mI l1] σ (.inl (some (mI r2), σ1)) ∧ sK σ1 ≤ kb ∧ sW σ1 ≤ wb ∧ Q (.inl (some (mI r2), σ1))) ∨ (∃ (σ4 : mx_S), mx_MS Y10_count [mR l0, mI l1] σ (.inr ("java/lang/IndexOutOfBoundsException", σ4)) ∧ sK σ4 ≤ kb ∧ sW σ4 ≤ wb ∧ ∀ (n5 q6 : Nat) (σ7 : mx_S), sN σ4 ≤ n5 → σ7 = mx_at_n σ4 n5 → Q (.inl (some (mI ((-900001 : Int))), σ7))) ∨ (∃ (σ8 : mx_S), mx_MS Y10_count [mR l0, mI l1] σ (.inr ("java/lang/UnsupportedOperationException", σ8)) ∧ sK σ8 ≤ kb ∧ sW σ8 ≤ wb ∧ ∀ (n9 q10 : Nat) (σ11 : mx_S), sN σ8 ≤ n9 → σ11 = mx_at_n σ8 n9 → Q (.inl (some (mI ((-900002 : Int))), σ11))))) : mx_J YL_count kb wb 0 [some (mR l0), some (mI l1), none] [] σ Q := by
  refine mj_aload_n (k := 0) dL_count_0 rfl rfl ?_
  refine mj_iload_n (k := 1) dL_count_1 rfl rfl ?_
  obtain ⟨fs3, hbfs3, K⟩ := K
  rcases K with ⟨r2, σ1, hMσ1, hkσ1, hwσ1, K⟩ | ⟨σ4, hMσ4, hkσ4, hwσ4, K⟩ | ⟨σ8, hMσ8, hkσ8, hwσ8, K⟩
  · refine mj_callV (As := [mI l1]) (rest := []) (b := l0) dL_count_2 k_YL_count_65 rfl hbfs3 rfl (Nat.le_of_ble_eq_true rfl) hMσ1 hkσ1 hwσ1 ?_
    exact mj_ret (v := some (mI r2)) ⟨dL_count_5, .int, rfl, rfl⟩ K
  · refine mj_callVX_in (As := [mI l1]) (rest := []) (b := l0) dL_count_2 k_YL_count_65 rfl hbfs3 rfl (Nat.le_of_ble_eq_true rfl) hMσ4 hkσ4 hwσ4 ch_YL_count_2_0 (fun n5 q6 hn9 => ?_)
    replace K := K n5 q6 _ hn9 rfl
    generalize mx_at_n σ4 n5 = σ7 at K ⊢
    refine mj_astore_n (k := 2) (ls' := [some (mR l0), some (mI l1), some (mR q6)]) dL_count_6 rfl (by decide) rfl ?_
    refine mj_ldc (n := (-900001 : Int)) dL_count_7 ⟨by decide, by decide⟩ w_557 ?_
    exact mj_ret (v := some (mI ((-900001 : Int)))) ⟨dL_count_9, .int, rfl, rfl⟩ K
  · refine mj_callVX_in (As := [mI l1]) (rest := []) (b := l0) dL_count_2 k_YL_count_65 rfl hbfs3 rfl (Nat.le_of_ble_eq_true rfl) hMσ8 hkσ8 hwσ8 ch_YL_count_2_1 (fun n9 q10 hn9 => ?_)
    replace K := K n9 q10 _ hn9 rfl
    generalize mx_at_n σ8 n9 = σ11 at K ⊢
    refine mj_astore_n (k := 2) (ls' := [some (mR l0), some (mI l1), some (mR q10)]) dL_count_10 rfl (by decide) rfl ?_
    refine mj_ldc (n := (-900002 : Int)) dL_count_11 ⟨by decide, by decide⟩ w_558 ?_
    exact mj_ret (v := some (mI ((-900002 : Int)))) ⟨dL_count_13, .int, rfl, rfl⟩ K
theorem B_YL_interval_0 {kb wb : Nat} {σ : mx_S} {Q : mx_R → Prop} {l0 : Nat} {l1 : Int} {l2 : Int} {l3 : Int} (K : ∃ (fs : List mx_V), sH σ (l0) = some (.inl (10, fs)) ∧ ((∃ (r2 : Int) (σ1 : mx_S), mx_MS Y10_interval [mR l0, mI l1, mI l2, mI l3] σ (.inl (some (mI r2), σ1)) ∧ sK σ1 ≤ kb ∧ sW σ1 ≤ wb ∧ Q (.inl (some (mI r2), σ1))) ∨ (∃ (σ4 : mx_S), mx_MS Y10_interval [mR l0, mI l1, mI l2, mI l3] σ (.inr ("java/lang/IndexOutOfBoundsException", σ4)) ∧ sK σ4 ≤ kb ∧ sW σ4 ≤ wb ∧ ∀ (n5 q6 : Nat) (σ7 : mx_S), sN σ4 ≤ n5 → σ7 = mx_at_n σ4 n5 → Q (.inl (some (mI ((-900001 : Int))), σ7))) ∨ (∃ (σ8 : mx_S), mx_MS Y10_interval [mR l0, mI l1, mI l2, mI l3] σ (.inr ("java/lang/UnsupportedOperationException", σ8)) ∧ sK σ8 ≤ kb ∧ sW σ8 ≤ wb ∧ ∀ (n9 q10 : Nat) (σ11 : mx_S), sN σ8 ≤ n9 → σ11 = mx_at_n σ8 n9 → Q (.inl (some (mI ((-900002 : Int))), σ11))) ∨ (∃ (σ12 : mx_S), mx_MS Y10_interval [mR l0, mI l1, mI l2, mI l3] σ (.inr ("java/lang/IllegalArgumentException", σ12)) ∧ sK σ12 ≤ kb ∧ sW σ12 ≤ wb ∧ ∀ (n13 q14 : Nat) (σ15 : mx_S), sN σ12 ≤ n13 → σ15 = mx_at_n σ12 n13 → Q (.inl (some (mI ((-900003 : Int))), σ15))))) : mx_J YL_interval kb wb 0 [some (mR l0), some (mI l1), some (mI l2), some (mI l3), none] [] σ Q := by
  refine mj_aload_n (k := 0) dL_interval_0 rfl rfl ?_
  refine mj_iload_n (k := 1) dL_interval_1 rfl rfl ?_
  refine mj_iload_n (k := 2) dL_interval_2 rfl rfl ?_
  refine mj_iload_n (k := 3) dL_interval_3 rfl rfl ?_
  obtain ⟨fs3, hbfs3, K⟩ := K
  rcases K with ⟨r2, σ1, hMσ1, hkσ1, hwσ1, K⟩ | ⟨σ4, hMσ4, hkσ4, hwσ4, K⟩ | ⟨σ8, hMσ8, hkσ8, hwσ8, K⟩ | ⟨σ12, hMσ12, hkσ12, hwσ12, K⟩
  · refine mj_callV (As := [mI l1, mI l2, mI l3]) (rest := []) (b := l0) dL_interval_4 k_YL_interval_68 rfl hbfs3 rfl (Nat.le_of_ble_eq_true rfl) hMσ1 hkσ1 hwσ1 ?_
    exact mj_ret (v := some (mI r2)) ⟨dL_interval_7, .int, rfl, rfl⟩ K
  · refine mj_callVX_in (As := [mI l1, mI l2, mI l3]) (rest := []) (b := l0) dL_interval_4 k_YL_interval_68 rfl hbfs3 rfl (Nat.le_of_ble_eq_true rfl) hMσ4 hkσ4 hwσ4 ch_YL_interval_4_0 (fun n5 q6 hn9 => ?_)
    replace K := K n5 q6 _ hn9 rfl
    generalize mx_at_n σ4 n5 = σ7 at K ⊢
    refine mj_astore (k := 4) (ls' := [some (mR l0), some (mI l1), some (mI l2), some (mI l3), some (mR q6)]) dL_interval_8 (by decide) rfl ?_
    refine mj_ldc (n := (-900001 : Int)) dL_interval_10 ⟨by decide, by decide⟩ w_557 ?_
    exact mj_ret (v := some (mI ((-900001 : Int)))) ⟨dL_interval_12, .int, rfl, rfl⟩ K
  · refine mj_callVX_in (As := [mI l1, mI l2, mI l3]) (rest := []) (b := l0) dL_interval_4 k_YL_interval_68 rfl hbfs3 rfl (Nat.le_of_ble_eq_true rfl) hMσ8 hkσ8 hwσ8 ch_YL_interval_4_1 (fun n9 q10 hn9 => ?_)
    replace K := K n9 q10 _ hn9 rfl
    generalize mx_at_n σ8 n9 = σ11 at K ⊢
    refine mj_astore (k := 4) (ls' := [some (mR l0), some (mI l1), some (mI l2), some (mI l3), some (mR q10)]) dL_interval_13 (by decide) rfl ?_
    refine mj_ldc (n := (-900002 : Int)) dL_interval_15 ⟨by decide, by decide⟩ w_558 ?_
    exact mj_ret (v := some (mI ((-900002 : Int)))) ⟨dL_interval_17, .int, rfl, rfl⟩ K
  · refine mj_callVX_in (As := [mI l1, mI l2, mI l3]) (rest := []) (b := l0) dL_interval_4 k_YL_interval_68 rfl hbfs3 rfl (Nat.le_of_ble_eq_true rfl) hMσ12 hkσ12 hwσ12 ch_YL_interval_4_2 (fun n13 q14 hn9 => ?_)
    replace K := K n13 q14 _ hn9 rfl
    generalize mx_at_n σ12 n13 = σ15 at K ⊢
    refine mj_astore (k := 4) (ls' := [some (mR l0), some (mI l1), some (mI l2), some (mI l3), some (mR q14)]) dL_interval_18 (by decide) rfl ?_
    refine mj_ldc (n := (-900003 : Int)) dL_interval_20 ⟨by decide, by decide⟩ w_675 ?_
    exact mj_ret (v := some (mI ((-900003 : Int)))) ⟨dL_interval_22, .int, rfl, rfl⟩ K
theorem B_YL_found_0 {kb wb : Nat} {σ : mx_S} {Q : mx_R → Prop} {l0 : Nat} {l1 : Int} {l2 : Int} {l3 : Int} (K : ∃ (fs : List mx_V), sH σ (l0) = some (.inl (10, fs)) ∧ ((∃ (r2 : Int) (σ1 : mx_S), mx_MS Y10_found [mR l0, mI l1, mI l2, mI l3] σ (.inl (some (mI r2), σ1)) ∧ sK σ1 ≤ kb ∧ sW σ1 ≤ wb ∧ Q (.inl (some (mI r2), σ1))) ∨ (∃ (σ4 : mx_S), mx_MS Y10_found [mR l0, mI l1, mI l2, mI l3] σ (.inr ("java/lang/IndexOutOfBoundsException", σ4)) ∧ sK σ4 ≤ kb ∧ sW σ4 ≤ wb ∧ ∀ (n5 q6 : Nat) (σ7 : mx_S), sN σ4 ≤ n5 → σ7 = mx_at_n σ4 n5 → Q (.inl (some (mI ((-900001 : Int))), σ7))) ∨ (∃ (σ8 : mx_S), mx_MS Y10_found [mR l0, mI l1, mI l2, mI l3] σ (.inr ("java/lang/UnsupportedOperationException", σ8)) ∧ sK σ8 ≤ kb ∧ sW σ8 ≤ wb ∧ ∀ (n9 q10 : Nat) (σ11 : mx_S), sN σ8 ≤ n9 → σ11 = mx_at_n σ8 n9 → Q (.inl (some (mI ((-900002 : Int))), σ11))) ∨ (∃ (σ12 : mx_S), mx_MS Y10_found [mR l0, mI l1, mI l2, mI l3] σ (.inr ("java/util/NoSuchElementException", σ12)) ∧ sK σ12 ≤ kb ∧ sW σ12 ≤ wb ∧ ∀ (n13 q14 : Nat) (σ15 : mx_S), sN σ12 ≤ n13 → σ15 = mx_at_n σ12 n13 → Q (.inl (some (mI ((-900003 : Int))), σ15))))) : mx_J YL_found kb wb 0 [some (mR l0), some (mI l1), some (mI l2), some (mI l3), none] [] σ Q := by
  refine mj_aload_n (k := 0) dL_found_0 rfl rfl ?_
  refine mj_iload_n (k := 1) dL_found_1 rfl rfl ?_
  refine mj_iload_n (k := 2) dL_found_2 rfl rfl ?_
  refine mj_iload_n (k := 3) dL_found_3 rfl rfl ?_
  obtain ⟨fs3, hbfs3, K⟩ := K
  rcases K with ⟨r2, σ1, hMσ1, hkσ1, hwσ1, K⟩ | ⟨σ4, hMσ4, hkσ4, hwσ4, K⟩ | ⟨σ8, hMσ8, hkσ8, hwσ8, K⟩ | ⟨σ12, hMσ12, hkσ12, hwσ12, K⟩
  · refine mj_callV (As := [mI l1, mI l2, mI l3]) (rest := []) (b := l0) dL_found_4 k_YL_found_72 rfl hbfs3 rfl (Nat.le_of_ble_eq_true rfl) hMσ1 hkσ1 hwσ1 ?_
    exact mj_ret (v := some (mI r2)) ⟨dL_found_7, .int, rfl, rfl⟩ K
  · refine mj_callVX_in (As := [mI l1, mI l2, mI l3]) (rest := []) (b := l0) dL_found_4 k_YL_found_72 rfl hbfs3 rfl (Nat.le_of_ble_eq_true rfl) hMσ4 hkσ4 hwσ4 ch_YL_found_4_0 (fun n5 q6 hn9 => ?_)
    replace K := K n5 q6 _ hn9 rfl
    generalize mx_at_n σ4 n5 = σ7 at K ⊢
    refine mj_astore (k := 4) (ls' := [some (mR l0), some (mI l1), some (mI l2), some (mI l3), some (mR q6)]) dL_found_8 (by decide) rfl ?_
    refine mj_ldc (n := (-900001 : Int)) dL_found_10 ⟨by decide, by decide⟩ w_557 ?_
    exact mj_ret (v := some (mI ((-900001 : Int)))) ⟨dL_found_12, .int, rfl, rfl⟩ K
  · refine mj_callVX_in (As := [mI l1, mI l2, mI l3]) (rest := []) (b := l0) dL_found_4 k_YL_found_72 rfl hbfs3 rfl (Nat.le_of_ble_eq_true rfl) hMσ8 hkσ8 hwσ8 ch_YL_found_4_1 (fun n9 q10 hn9 => ?_)
    replace K := K n9 q10 _ hn9 rfl
    generalize mx_at_n σ8 n9 = σ11 at K ⊢
    refine mj_astore (k := 4) (ls' := [some (mR l0), some (mI l1), some (mI l2), some (mI l3), some (mR q10)]) dL_found_13 (by decide) rfl ?_
    refine mj_ldc (n := (-900002 : Int)) dL_found_15 ⟨by decide, by decide⟩ w_558 ?_
    exact mj_ret (v := some (mI ((-900002 : Int)))) ⟨dL_found_17, .int, rfl, rfl⟩ K
  · refine mj_callVX_in (As := [mI l1, mI l2, mI l3]) (rest := []) (b := l0) dL_found_4 k_YL_found_72 rfl hbfs3 rfl (Nat.le_of_ble_eq_true rfl) hMσ12 hkσ12 hwσ12 ch_YL_found_4_2 (fun n13 q14 hn9 => ?_)
    replace K := K n13 q14 _ hn9 rfl
    generalize mx_at_n σ12 n13 = σ15 at K ⊢
    refine mj_astore (k := 4) (ls' := [some (mR l0), some (mI l1), some (mI l2), some (mI l3), some (mR q14)]) dL_found_18 (by decide) rfl ?_
    refine mj_ldc (n := (-900003 : Int)) dL_found_20 ⟨by decide, by decide⟩ w_675 ?_
    exact mj_ret (v := some (mI ((-900003 : Int)))) ⟨dL_found_22, .int, rfl, rfl⟩ K
theorem B_YL_in_0 {kb wb : Nat} {σ : mx_S} {Q : mx_R → Prop} {l0 : Nat} {l1 : Int} {l2 : Int} (K : ∃ (r2 : Int) (σ1 : mx_S), mx_MS YL_cell [mR l0, mI l1] σ (.inl (some (mI r2), σ1)) ∧ sK σ1 ≤ kb ∧ sW σ1 ≤ wb ∧ ¬ (l2 = 0) ∧ Q (.inl (some (mI (mx_rem (mx_and (r2) ((2147483647 : Int))) (l2))), σ1))) : mx_J YL_in kb wb 0 [some (mR l0), some (mI l1), some (mI l2)] [] σ Q := by
  refine mj_aload_n (k := 0) dL_in_0 rfl rfl ?_
  refine mj_iload_n (k := 1) dL_in_1 rfl rfl ?_
  obtain ⟨r2, σ1, hMσ1, hkσ1, hwσ1, K⟩ := K
  refine mj_callS (As := [mR l0, mI l1]) (rest := []) dL_in_2 k_YL_in_75 rfl (Nat.le_of_ble_eq_true rfl) hMσ1 hkσ1 hwσ1 ?_
  refine mj_ldc (n := (2147483647 : Int)) dL_in_5 ⟨by decide, by decide⟩ w_854 ?_
  refine mj_iand dL_in_7 ?_
  refine mj_iload_n (k := 2) dL_in_8 rfl rfl ?_
  obtain ⟨hne, K⟩ := K
  refine mj_irem dL_in_9 hne ?_
  exact mj_ret (v := some (mI (mx_rem (mx_and (r2) ((2147483647 : Int))) (l2)))) ⟨dL_in_10, .int, rfl, rfl⟩ K
theorem B_YL_typed_0 {kb wb : Nat} {σ : mx_S} {Q : mx_R → Prop} {l0 : Nat} {l1 : Nat} {l2 : Int} {l3 : Int} (K : 0 ≤ l3 ∧ l3 ≤ 134217728 ∧ sK σ + 1 ≤ kb ∧ sW σ + (l3).toNat ≤ wb ∧ ∀ σ1 a2, σ1 = mx_al σ (.inr (1, (l3).toNat, fun _ => mI 0)) (l3).toNat → a2 = sN σ → ∃ (fs : List mx_V), sH σ1 (l0) = some (.inl (10, fs)) ∧ ∃ (r4 : Int) (σ3 : mx_S), mx_MS Y10_wipe [mR l0] σ1 (.inl (some (mI r4), σ3)) ∧ sK σ3 ≤ kb ∧ sW σ3 ≤ wb ∧ mx_J YL_typed kb wb 14 [some (mR l0), some (mR l1), some (mI l2), some (mI l3), some (mR a2), some (mI r4), some (mI ((0 : Int)))] [] σ3 Q) : mx_J YL_typed kb wb 0 [some (mR l0), some (mR l1), some (mI l2), some (mI l3), none, none, none] [] σ Q := by
  refine mj_iload_n (k := 3) dL_typed_0 rfl rfl ?_
  obtain ⟨h0a2, h1a2, hka2, hwa2, K⟩ := K
  replace K := K _ _ rfl rfl
  refine mj_newa (kd := 1) dL_typed_1 (by decide) w_62 h0a2 h1a2 hka2 hwa2 ?_
  generalize mx_al σ (.inr (1, (l3).toNat, fun _ => mI 0)) (l3).toNat = σ1 at K ⊢
  generalize sN σ = a2 at K ⊢
  refine mj_astore (k := 4) (ls' := [some (mR l0), some (mR l1), some (mI l2), some (mI l3), some (mR a2), none, none]) dL_typed_3 (by decide) rfl ?_
  refine mj_aload_n (k := 0) dL_typed_5 rfl rfl ?_
  obtain ⟨fs5, hbfs5, K⟩ := K
  obtain ⟨r4, σ3, hMσ3, hkσ3, hwσ3, K⟩ := K
  refine mj_callV (As := []) (rest := []) (b := l0) dL_typed_6 k_YL_typed_82 rfl hbfs5 rfl (Nat.le_of_ble_eq_true rfl) hMσ3 hkσ3 hwσ3 ?_
  refine mj_istore (k := 5) (ls' := [some (mR l0), some (mR l1), some (mI l2), some (mI l3), some (mR a2), some (mI r4), none]) dL_typed_9 (by decide) rfl ?_
  refine mj_iconst dL_typed_11 ⟨by decide, by decide⟩ ?_
  refine mj_istore (k := 6) (ls' := [some (mR l0), some (mR l1), some (mI l2), some (mI l3), some (mR a2), some (mI r4), some (mI ((0 : Int)))]) dL_typed_12 (by decide) rfl ?_
  exact K
theorem B_YL_typed_14 {kb wb : Nat} {σ : mx_S} {Q : mx_R → Prop} {l0 : Nat} {l1 : Nat} {l2 : Int} {l3 : Int} {l4 : Nat} {l5 : Int} {l6 : Int} (K : (l3 ≤ l6 → Q (.inl (some (mR l4), σ))) ∧ (¬ (l3 ≤ l6) → ∃ (r2 : Int) (σ1 : mx_S), mx_MS YL_in [mR l1, mI (mx_w (l2 + l6)), mI ((3 : Int))] σ (.inl (some (mI r2), σ1)) ∧ sK σ1 ≤ kb ∧ sW σ1 ≤ wb ∧ ∃ (n3 : Nat) (f : Nat → mx_V), sH σ1 (l4) = some (.inr (1, n3, f)) ∧ sB σ1 ≤ l4 ∧ 0 ≤ l6 ∧ l6 < (n3 : Int) ∧ 0 ≤ mx_i2c (mx_w ((97 : Int) + r2)) ∧ mx_i2c (mx_w ((97 : Int) + r2)) ≤ 65535 ∧ ∀ σ4, σ4 = mx_wr σ1 (l4) (.inr (1, n3, upV f (l6).toNat (mI (mx_i2c (mx_w ((97 : Int) + r2)))))) → ∃ (n5 : Nat) (f : Nat → mx_V), sH σ4 (l4) = some (.inr (1, n5, f)) ∧ 0 ≤ l6 ∧ l6 < (n5 : Int) ∧ ∃ x6, f (l6).toNat = mI x6 ∧ ∃ (r8 : Int) (σ7 : mx_S), mx_MS YL_type [mR l0, mI x6] σ4 (.inl (some (mI r8), σ7)) ∧ sK σ7 ≤ kb ∧ sW σ7 ≤ wb ∧ mx_J YL_typed kb wb 14 [some (mR l0), some (mR l1), some (mI l2), some (mI l3), some (mR l4), some (mI r8), some (mI (mx_w (l6 + (1 : Int))))] [] σ7 Q)) : mx_J YL_typed kb wb 14 [some (mR l0), some (mR l1), some (mI l2), some (mI l3), some (mR l4), some (mI l5), some (mI l6)] [] σ Q := by
  refine mj_iload (k := 6) dL_typed_14 rfl ?_
  refine mj_iload_n (k := 3) dL_typed_16 rfl rfl ?_
  refine mj_icmp_ge (tgt := 55) dL_typed_17 (by decide) ⟨fun h => ?_, fun h => ?_⟩
  · replace K := K.1 h
    refine mj_aload (k := 4) dL_typed_55 rfl ?_
    exact mj_ret (v := some (mR l4)) ⟨dL_typed_57, _, rfl, Or.inr ⟨_, rfl⟩⟩ K
  · replace K := K.2 h
    refine mj_aload (k := 4) dL_typed_20 rfl ?_
    refine mj_iload (k := 6) dL_typed_22 rfl ?_
    refine mj_bipush (n := 97) dL_typed_24 ⟨by decide, by decide⟩ (by decide) ?_
    refine mj_aload_n (k := 1) dL_typed_26 rfl rfl ?_
    refine mj_iload_n (k := 2) dL_typed_27 rfl rfl ?_
    refine mj_iload (k := 6) dL_typed_28 rfl ?_
    refine mj_iadd dL_typed_30 ?_
    refine mj_iconst dL_typed_31 ⟨by decide, by decide⟩ ?_
    obtain ⟨r2, σ1, hMσ1, hkσ1, hwσ1, K⟩ := K
    refine mj_callS (As := [mR l1, mI (mx_w (l2 + l6)), mI ((3 : Int))]) (rest := [mI ((97 : Int)), mI l6, mR l4]) dL_typed_32 k_YL_typed_85 rfl (Nat.le_of_ble_eq_true rfl) hMσ1 hkσ1 hwσ1 ?_
    refine mj_iadd dL_typed_35 ?_
    refine mj_i2c dL_typed_36 ?_
    obtain ⟨n3, fn3, hfn3, hbn3, h0n3, h1n3, c0n3, c1n3, K⟩ := K
    replace K := K _ rfl
    refine mj_cast dL_typed_37 hfn3 hbn3 h0n3 h1n3 (mx_nch c0n3 c1n3) ?_
    generalize mx_wr σ1 (l4) (.inr (1, n3, upV fn3 (l6).toNat (mI (mx_i2c (mx_w ((97 : Int) + r2)))))) = σ4 at K ⊢
    refine mj_aload_n (k := 0) dL_typed_38 rfl rfl ?_
    refine mj_aload (k := 4) dL_typed_39 rfl ?_
    refine mj_iload (k := 6) dL_typed_41 rfl ?_
    obtain ⟨n5, fn5, hfn5, h0n5, h1n5, x6, hxx6, K⟩ := K
    refine mj_cald dL_typed_43 hfn5 h0n5 h1n5 ?_
    rw [hxx6]
    obtain ⟨r8, σ7, hMσ7, hkσ7, hwσ7, K⟩ := K
    refine mj_callSW (As := [mR l0, mI x6]) (rest := []) dL_typed_44 k_YL_typed_89 rfl (Nat.le_of_ble_eq_true rfl) hMσ7 hkσ7 hwσ7 ?_
    refine mj_istore (k := 5) (ls' := [some (mR l0), some (mR l1), some (mI l2), some (mI l3), some (mR l4), some (mI r8), some (mI l6)]) dL_typed_47 (by decide) rfl ?_
    refine mj_iinc (k := 6) (ls' := [some (mR l0), some (mR l1), some (mI l2), some (mI l3), some (mR l4), some (mI r8), some (mI (mx_w (l6 + (1 : Int))))]) dL_typed_49 rfl (by decide) rfl ?_
    refine mj_goto (tgt := 14) dL_typed_52 (by decide) ?_
    exact K
theorem B_YL_isAt_0 {kb wb : Nat} {σ : mx_S} {Q : mx_R → Prop} {l0 : Nat} {l1 : Int} {l2 : Nat} (K : ∃ (kd n1 : Nat) (f : Nat → mx_V), sH σ (l2) = some (.inr (kd, n1, f)) ∧ ∃ (kd n2 : Nat) (f : Nat → mx_V), sH σ (l0) = some (.inr (kd, n2, f)) ∧ ((n2 : Int) < mx_w (l1 + (n1 : Int)) → mx_J YL_isAt kb wb 18 [some (mR l0), some (mI l1), some (mR l2), some (mI ((0 : Int))), some (mI ((0 : Int)))] [] σ Q) ∧ (¬ ((n2 : Int) < mx_w (l1 + (n1 : Int))) → mx_J YL_isAt kb wb 18 [some (mR l0), some (mI l1), some (mR l2), some (mI ((1 : Int))), some (mI ((0 : Int)))] [] σ Q)) : mx_J YL_isAt kb wb 0 [some (mR l0), some (mI l1), some (mR l2), none, none] [] σ Q := by
  refine mj_iload_n (k := 1) dL_isAt_0 rfl rfl ?_
  refine mj_aload_n (k := 2) dL_isAt_1 rfl rfl ?_
  obtain ⟨kd, n1, fn1, hfn1, K⟩ := K
  refine mj_alen dL_isAt_2 hfn1 ?_
  refine mj_iadd dL_isAt_3 ?_
  refine mj_aload_n (k := 0) dL_isAt_4 rfl rfl ?_
  obtain ⟨kd, n2, fn2, hfn2, K⟩ := K
  refine mj_alen dL_isAt_5 hfn2 ?_
  refine mj_icmp_gt (tgt := 13) dL_isAt_6 (by decide) ⟨fun h => ?_, fun h => ?_⟩
  · replace K := K.1 h
    refine mj_iconst dL_isAt_13 ⟨by decide, by decide⟩ ?_
    refine mj_istore_n (k := 3) (ls' := [some (mR l0), some (mI l1), some (mR l2), some (mI ((0 : Int))), none]) dL_isAt_14 rfl (by decide) rfl ?_
    refine mj_iconst dL_isAt_15 ⟨by decide, by decide⟩ ?_
    refine mj_istore (k := 4) (ls' := [some (mR l0), some (mI l1), some (mR l2), some (mI ((0 : Int))), some (mI ((0 : Int)))]) dL_isAt_16 (by decide) rfl ?_
    exact K
  · replace K := K.2 h
    refine mj_iconst dL_isAt_9 ⟨by decide, by decide⟩ ?_
    refine mj_goto (tgt := 14) dL_isAt_10 (by decide) ?_
    refine mj_istore_n (k := 3) (ls' := [some (mR l0), some (mI l1), some (mR l2), some (mI ((1 : Int))), none]) dL_isAt_14 rfl (by decide) rfl ?_
    refine mj_iconst dL_isAt_15 ⟨by decide, by decide⟩ ?_
    refine mj_istore (k := 4) (ls' := [some (mR l0), some (mI l1), some (mR l2), some (mI ((1 : Int))), some (mI ((0 : Int)))]) dL_isAt_16 (by decide) rfl ?_
    exact K
theorem B_YL_isAt_18 {kb wb : Nat} {σ : mx_S} {Q : mx_R → Prop} {l0 : Nat} {l1 : Int} {l2 : Nat} {l3 : Int} {l4 : Int} (K : ∃ (kd n1 : Nat) (f : Nat → mx_V), sH σ (l2) = some (.inr (kd, n1, f)) ∧ ((n1 : Int) ≤ l4 → 0 ≤ l3 ∧ l3 ≤ 1 ∧ Q (.inl (some (mI l3), σ))) ∧ (¬ ((n1 : Int) ≤ l4) → (l3 = (0 : Int) → 0 ≤ l3 ∧ l3 ≤ 1 ∧ Q (.inl (some (mI l3), σ))) ∧ (¬ (l3 = (0 : Int)) → ∃ (n2 : Nat) (f : Nat → mx_V), sH σ (l0) = some (.inr (1, n2, f)) ∧ 0 ≤ mx_w (l1 + l4) ∧ mx_w (l1 + l4) < (n2 : Int) ∧ ∃ x3, f (mx_w (l1 + l4)).toNat = mI x3 ∧ ∃ (n4 : Nat) (f : Nat → mx_V), sH σ (l2) = some (.inr (1, n4, f)) ∧ 0 ≤ l4 ∧ l4 < (n4 : Int) ∧ ∃ x5, f (l4).toNat = mI x5 ∧ (¬ x3 = x5 → mx_J YL_isAt kb wb 47 [some (mR l0), some (mI l1), some (mR l2), some (mI l3), some (mI l4)] [mI ((0 : Int))] σ Q) ∧ (¬ (¬ x3 = x5) → mx_J YL_isAt kb wb 47 [some (mR l0), some (mI l1), some (mR l2), some (mI l3), some (mI l4)] [mI ((1 : Int))] σ Q)))) : mx_J YL_isAt kb wb 18 [some (mR l0), some (mI l1), some (mR l2), some (mI l3), some (mI l4)] [] σ Q := by
  refine mj_iload (k := 4) dL_isAt_18 rfl ?_
  refine mj_aload_n (k := 2) dL_isAt_20 rfl rfl ?_
  obtain ⟨kd, n1, fn1, hfn1, K⟩ := K
  refine mj_alen dL_isAt_21 hfn1 ?_
  refine mj_icmp_ge (tgt := 54) dL_isAt_22 (by decide) ⟨fun h => ?_, fun h => ?_⟩
  · replace K := K.1 h
    refine mj_iload_n (k := 3) dL_isAt_54 rfl rfl ?_
    exact mj_ret (v := some (mI l3)) ⟨dL_isAt_55, .boolean, rfl, mx_nbo K.1 K.2.1⟩ K.2.2
  · replace K := K.2 h
    refine mj_iload_n (k := 3) dL_isAt_25 rfl rfl ?_
    refine mj_if_eq (tgt := 54) dL_isAt_26 (by decide) ⟨fun h => ?_, fun h => ?_⟩
    · replace K := K.1 h
      refine mj_iload_n (k := 3) dL_isAt_54 rfl rfl ?_
      exact mj_ret (v := some (mI l3)) ⟨dL_isAt_55, .boolean, rfl, mx_nbo K.1 K.2.1⟩ K.2.2
    · replace K := K.2 h
      refine mj_aload_n (k := 0) dL_isAt_29 rfl rfl ?_
      refine mj_iload_n (k := 1) dL_isAt_30 rfl rfl ?_
      refine mj_iload (k := 4) dL_isAt_31 rfl ?_
      refine mj_iadd dL_isAt_33 ?_
      obtain ⟨n2, fn2, hfn2, h0n2, h1n2, x3, hxx3, K⟩ := K
      refine mj_cald dL_isAt_34 hfn2 h0n2 h1n2 ?_
      rw [hxx3]
      refine mj_aload_n (k := 2) dL_isAt_35 rfl rfl ?_
      refine mj_iload (k := 4) dL_isAt_36 rfl ?_
      obtain ⟨n4, fn4, hfn4, h0n4, h1n4, x5, hxx5, K⟩ := K
      refine mj_cald dL_isAt_38 hfn4 h0n4 h1n4 ?_
      rw [hxx5]
      refine mj_icmp_ne (tgt := 46) dL_isAt_39 (by decide) ⟨fun h => ?_, fun h => ?_⟩
      · replace K := K.1 h
        refine mj_iconst dL_isAt_46 ⟨by decide, by decide⟩ ?_
        exact K
      · replace K := K.2 h
        refine mj_iconst dL_isAt_42 ⟨by decide, by decide⟩ ?_
        refine mj_goto (tgt := 47) dL_isAt_43 (by decide) ?_
        exact K
theorem B_YL_isAt_47 {kb wb : Nat} {σ : mx_S} {Q : mx_R → Prop} {l0 : Nat} {l1 : Int} {l2 : Nat} {l3 : Int} {l4 : Int} {s0 : Int} (K : mx_J YL_isAt kb wb 18 [some (mR l0), some (mI l1), some (mR l2), some (mI s0), some (mI (mx_w (l4 + (1 : Int))))] [] σ Q) : mx_J YL_isAt kb wb 47 [some (mR l0), some (mI l1), some (mR l2), some (mI l3), some (mI l4)] [mI s0] σ Q := by
  refine mj_istore_n (k := 3) (ls' := [some (mR l0), some (mI l1), some (mR l2), some (mI s0), some (mI l4)]) dL_isAt_47 rfl (by decide) rfl ?_
  refine mj_iinc (k := 4) (ls' := [some (mR l0), some (mI l1), some (mR l2), some (mI s0), some (mI (mx_w (l4 + (1 : Int))))]) dL_isAt_48 rfl (by decide) rfl ?_
  refine mj_goto (tgt := 18) dL_isAt_51 (by decide) ?_
  exact K
