/-! The law's body as blocks (laid by wip/p53/genlaw.py). -/
def YL_law : mx_M := (yL_law, cL_law, 23, some .boolean, 12, 438, [])
theorem w_41 : (.classLink "SuffixhallLaw" 10 "Suffixhall" : Cond) ∈ mx_ws := mx_iw (i := 41) (by decide +kernel) (by decide +kernel)
theorem w_42 : (.instantiable "Suffixhall" 8 : Cond) ∈ mx_ws := mx_iw (i := 42) (by decide +kernel) (by decide +kernel)
theorem w_43 : (.methodLink "SuffixhallLaw" 92 yX10_init : Cond) ∈ mx_ws := mx_iw (i := 43) (by decide +kernel) (by decide +kernel)
theorem w_44 : (.instanceMethod yX10_init : Cond) ∈ mx_ws := mx_iw (i := 44) (by decide +kernel) (by decide +kernel)
theorem w_282 : (.methodLink "SuffixhallLaw" 125 yX10_runShare : Cond) ∈ mx_ws := mx_iw (i := 282) (by decide +kernel) (by decide +kernel)
theorem w_283 : (.instanceMethod yX10_runShare : Cond) ∈ mx_ws := mx_iw (i := 283) (by decide +kernel) (by decide +kernel)
theorem w_284 : (.selects "Suffixhall" yX10_runShare yX10_runShare : Cond) ∈ mx_ws := mx_iw (i := 284) (by decide +kernel) (by decide +kernel)
theorem w_459 : (.methodLink "SuffixhallLaw" 140 yX10_isSound : Cond) ∈ mx_ws := mx_iw (i := 459) (by decide +kernel) (by decide +kernel)
theorem w_460 : (.instanceMethod yX10_isSound : Cond) ∈ mx_ws := mx_iw (i := 460) (by decide +kernel) (by decide +kernel)
theorem w_461 : (.selects "Suffixhall" yX10_isSound yX10_isSound : Cond) ∈ mx_ws := mx_iw (i := 461) (by decide +kernel) (by decide +kernel)
theorem w_559 : (.methodLink "SuffixhallLaw" 96 yL_add : Cond) ∈ mx_ws := mx_iw (i := 559) (by decide +kernel) (by decide +kernel)
theorem w_560 : (.static yL_add : Cond) ∈ mx_ws := mx_iw (i := 560) (by decide +kernel) (by decide +kernel)
theorem w_637 : (.methodLink "SuffixhallLaw" 115 yL_insert : Cond) ∈ mx_ws := mx_iw (i := 637) (by decide +kernel) (by decide +kernel)
theorem w_638 : (.static yL_insert : Cond) ∈ mx_ws := mx_iw (i := 638) (by decide +kernel) (by decide +kernel)
theorem w_676 : (.methodLink "SuffixhallLaw" 93 yL_documents : Cond) ∈ mx_ws := mx_iw (i := 676) (by decide +kernel) (by decide +kernel)
theorem w_677 : (.static yL_documents : Cond) ∈ mx_ws := mx_iw (i := 677) (by decide +kernel) (by decide +kernel)
theorem w_684 : (.methodLink "SuffixhallLaw" 110 yL_lengthOf : Cond) ∈ mx_ws := mx_iw (i := 684) (by decide +kernel) (by decide +kernel)
theorem w_685 : (.static yL_lengthOf : Cond) ∈ mx_ws := mx_iw (i := 685) (by decide +kernel) (by decide +kernel)
theorem w_691 : (.methodLink "SuffixhallLaw" 113 yL_snapshot : Cond) ∈ mx_ws := mx_iw (i := 691) (by decide +kernel) (by decide +kernel)
theorem w_692 : (.static yL_snapshot : Cond) ∈ mx_ws := mx_iw (i := 692) (by decide +kernel) (by decide +kernel)
theorem w_720 : (.methodLink "SuffixhallLaw" 101 yL_suffixAt : Cond) ∈ mx_ws := mx_iw (i := 720) (by decide +kernel) (by decide +kernel)
theorem w_721 : (.static yL_suffixAt : Cond) ∈ mx_ws := mx_iw (i := 721) (by decide +kernel) (by decide +kernel)
theorem w_740 : (.methodLink "SuffixhallLaw" 122 yL_rankOf : Cond) ∈ mx_ws := mx_iw (i := 740) (by decide +kernel) (by decide +kernel)
theorem w_741 : (.static yL_rankOf : Cond) ∈ mx_ws := mx_iw (i := 741) (by decide +kernel) (by decide +kernel)
theorem w_752 : (.methodLink "SuffixhallLaw" 120 yL_turned : Cond) ∈ mx_ws := mx_iw (i := 752) (by decide +kernel) (by decide +kernel)
theorem w_753 : (.static yL_turned : Cond) ∈ mx_ws := mx_iw (i := 753) (by decide +kernel) (by decide +kernel)
theorem w_760 : (.methodLink "SuffixhallLaw" 99 yL_runs : Cond) ∈ mx_ws := mx_iw (i := 760) (by decide +kernel) (by decide +kernel)
theorem w_761 : (.static yL_runs : Cond) ∈ mx_ws := mx_iw (i := 761) (by decide +kernel) (by decide +kernel)
theorem w_767 : (.methodLink "SuffixhallLaw" 117 yL_ahead : Cond) ∈ mx_ws := mx_iw (i := 767) (by decide +kernel) (by decide +kernel)
theorem w_768 : (.static yL_ahead : Cond) ∈ mx_ws := mx_iw (i := 768) (by decide +kernel) (by decide +kernel)
theorem w_779 : (.methodLink "SuffixhallLaw" 138 yL_count : Cond) ∈ mx_ws := mx_iw (i := 779) (by decide +kernel) (by decide +kernel)
theorem w_780 : (.static yL_count : Cond) ∈ mx_ws := mx_iw (i := 780) (by decide +kernel) (by decide +kernel)
theorem w_817 : (.methodLink "SuffixhallLaw" 129 yL_interval : Cond) ∈ mx_ws := mx_iw (i := 817) (by decide +kernel) (by decide +kernel)
theorem w_818 : (.static yL_interval : Cond) ∈ mx_ws := mx_iw (i := 818) (by decide +kernel) (by decide +kernel)
theorem w_833 : (.methodLink "SuffixhallLaw" 136 yL_found : Cond) ∈ mx_ws := mx_iw (i := 833) (by decide +kernel) (by decide +kernel)
theorem w_834 : (.static yL_found : Cond) ∈ mx_ws := mx_iw (i := 834) (by decide +kernel) (by decide +kernel)
theorem w_855 : (.methodLink "SuffixhallLaw" 106 yL_typed : Cond) ∈ mx_ws := mx_iw (i := 855) (by decide +kernel) (by decide +kernel)
theorem w_856 : (.static yL_typed : Cond) ∈ mx_ws := mx_iw (i := 856) (by decide +kernel) (by decide +kernel)
theorem w_862 : (.methodLink "SuffixhallLaw" 132 yL_isAt : Cond) ∈ mx_ws := mx_iw (i := 862) (by decide +kernel) (by decide +kernel)
theorem w_863 : (.static yL_isAt : Cond) ∈ mx_ws := mx_iw (i := 863) (by decide +kernel) (by decide +kernel)
theorem w_865 : (.classLink "SuffixhallLaw" 104 "[C" : Cond) ∈ mx_ws := mx_iw (i := 865) (by decide +kernel) (by decide +kernel)
theorem wc_Y10_init : mx_cw Y10_init ∈ mx_ws := mx_iw (i := 45) (by decide +kernel) (by decide +kernel)
theorem wc_YL_documents : mx_cw YL_documents ∈ mx_ws := mx_iw (i := 678) (by decide +kernel) (by decide +kernel)
theorem wc_YL_add : mx_cw YL_add ∈ mx_ws := mx_iw (i := 561) (by decide +kernel) (by decide +kernel)
theorem wc_YL_runs : mx_cw YL_runs ∈ mx_ws := mx_iw (i := 762) (by decide +kernel) (by decide +kernel)
theorem wc_YL_suffixAt : mx_cw YL_suffixAt ∈ mx_ws := mx_iw (i := 722) (by decide +kernel) (by decide +kernel)
theorem wc_YL_typed : mx_cw YL_typed ∈ mx_ws := mx_iw (i := 857) (by decide +kernel) (by decide +kernel)
theorem wc_YL_lengthOf : mx_cw YL_lengthOf ∈ mx_ws := mx_iw (i := 686) (by decide +kernel) (by decide +kernel)
theorem wc_YL_snapshot : mx_cw YL_snapshot ∈ mx_ws := mx_iw (i := 693) (by decide +kernel) (by decide +kernel)
theorem wc_YL_insert : mx_cw YL_insert ∈ mx_ws := mx_iw (i := 639) (by decide +kernel) (by decide +kernel)
theorem wc_YL_turned : mx_cw YL_turned ∈ mx_ws := mx_iw (i := 754) (by decide +kernel) (by decide +kernel)
theorem wc_YL_ahead : mx_cw YL_ahead ∈ mx_ws := mx_iw (i := 769) (by decide +kernel) (by decide +kernel)
theorem wc_Y10_runShare : mx_cw Y10_runShare ∈ mx_ws := mx_iw (i := 285) (by decide +kernel) (by decide +kernel)
theorem wc_YL_count : mx_cw YL_count ∈ mx_ws := mx_iw (i := 781) (by decide +kernel) (by decide +kernel)
theorem wc_YL_found : mx_cw YL_found ∈ mx_ws := mx_iw (i := 835) (by decide +kernel) (by decide +kernel)
theorem wc_YL_interval : mx_cw YL_interval ∈ mx_ws := mx_iw (i := 819) (by decide +kernel) (by decide +kernel)
theorem wc_Y10_isSound : mx_cw Y10_isSound ∈ mx_ws := mx_iw (i := 462) (by decide +kernel) (by decide +kernel)
theorem wc_YL_isAt : mx_cw YL_isAt ∈ mx_ws := mx_iw (i := 864) (by decide +kernel) (by decide +kernel)
theorem wc_YL_rankOf : mx_cw YL_rankOf ∈ mx_ws := mx_iw (i := 742) (by decide +kernel) (by decide +kernel)
theorem nf_YL_law_10 : mx_nf YL_law 10 10 [mN, mN, mN, mN, mN, mN, mN, mI 0] := ⟨_, _, _, _, rfl, rfl, u_10, tyX10_ok, w_41, w_42, w_19, by decide +kernel, mx_okl (by simp [mx_ok])⟩
theorem k_YL_law_92 : mx_kI YL_law Y10_init 92 0 := ⟨⟨wc_Y10_init, w_19, ⟨by decide, by decide⟩, by decide +kernel, by decide, by decide⟩, rfl, w_43, w_44, rfl, rfl⟩
theorem k_YL_law_93 : mx_kSW YL_law YL_documents 93 2 := ⟨⟨wc_YL_documents, w_18, ⟨by decide, by decide⟩, by decide +kernel, by decide, by decide⟩, by decide, w_676, w_677⟩
theorem k_YL_law_96 : mx_kSW YL_law YL_add 96 1 := ⟨⟨wc_YL_add, w_18, ⟨by decide, by decide⟩, by decide +kernel, by decide, by decide⟩, by decide, w_559, w_560⟩
theorem k_YL_law_99 : mx_kSW YL_law YL_runs 99 2 := ⟨⟨wc_YL_runs, w_18, ⟨by decide, by decide⟩, by decide +kernel, by decide, by decide⟩, by decide, w_760, w_761⟩
theorem k_YL_law_101 : mx_kSW YL_law YL_suffixAt 101 4 := ⟨⟨wc_YL_suffixAt, w_18, ⟨by decide, by decide⟩, by decide +kernel, by decide, by decide⟩, by decide, w_720, w_721⟩
theorem k_YL_law_89 : mx_kSW YL_law YL_type 89 2 := ⟨⟨wc_YL_type, w_18, ⟨by decide, by decide⟩, by decide +kernel, by decide, by decide⟩, by decide, w_502, w_503⟩
theorem k_YL_law_85 : mx_kS YL_law YL_in 85 3 := ⟨⟨wc_YL_in, w_18, ⟨by decide, by decide⟩, by decide +kernel, by decide, by decide⟩, rfl, w_846, w_847⟩
theorem k_YL_law_106 : mx_kS YL_law YL_typed 106 4 := ⟨⟨wc_YL_typed, w_18, ⟨by decide, by decide⟩, by decide +kernel, by decide, by decide⟩, rfl, w_855, w_856⟩
theorem k_YL_law_110 : mx_kSW YL_law YL_lengthOf 110 3 := ⟨⟨wc_YL_lengthOf, w_18, ⟨by decide, by decide⟩, by decide +kernel, by decide, by decide⟩, by decide, w_684, w_685⟩
theorem k_YL_law_113 : mx_kSW YL_law YL_snapshot 113 1 := ⟨⟨wc_YL_snapshot, w_18, ⟨by decide, by decide⟩, by decide +kernel, by decide, by decide⟩, by decide, w_691, w_692⟩
theorem k_YL_law_115 : mx_kSW YL_law YL_insert 115 3 := ⟨⟨wc_YL_insert, w_18, ⟨by decide, by decide⟩, by decide +kernel, by decide, by decide⟩, by decide, w_637, w_638⟩
theorem k_YL_law_120 : mx_kSW YL_law YL_turned 120 3 := ⟨⟨wc_YL_turned, w_18, ⟨by decide, by decide⟩, by decide +kernel, by decide, by decide⟩, by decide, w_752, w_753⟩
theorem k_YL_law_117 : mx_kSW YL_law YL_ahead 117 4 := ⟨⟨wc_YL_ahead, w_18, ⟨by decide, by decide⟩, by decide +kernel, by decide, by decide⟩, by decide, w_767, w_768⟩
theorem k_YL_law_125 : mx_kV YL_law Y10_runShare 125 1 := ⟨⟨wc_Y10_runShare, w_19, ⟨by decide, by decide⟩, by decide +kernel, by decide, by decide⟩, rfl, w_282, w_283, w_284⟩
theorem k_YL_law_138 : mx_kSW YL_law YL_count 138 2 := ⟨⟨wc_YL_count, w_18, ⟨by decide, by decide⟩, by decide +kernel, by decide, by decide⟩, by decide, w_779, w_780⟩
theorem k_YL_law_136 : mx_kSW YL_law YL_found 136 4 := ⟨⟨wc_YL_found, w_18, ⟨by decide, by decide⟩, by decide +kernel, by decide, by decide⟩, by decide, w_833, w_834⟩
theorem k_YL_law_129 : mx_kSW YL_law YL_interval 129 4 := ⟨⟨wc_YL_interval, w_18, ⟨by decide, by decide⟩, by decide +kernel, by decide, by decide⟩, by decide, w_817, w_818⟩
theorem k_YL_law_140 : mx_kV YL_law Y10_isSound 140 0 := ⟨⟨wc_Y10_isSound, w_19, ⟨by decide, by decide⟩, by decide +kernel, by decide, by decide⟩, rfl, w_459, w_460, w_461⟩
theorem k_YL_law_132 : mx_kS YL_law YL_isAt 132 3 := ⟨⟨wc_YL_isAt, w_18, ⟨by decide, by decide⟩, by decide +kernel, by decide, by decide⟩, rfl, w_862, w_863⟩
theorem k_YL_law_122 : mx_kSW YL_law YL_rankOf 122 4 := ⟨⟨wc_YL_rankOf, w_18, ⟨by decide, by decide⟩, by decide +kernel, by decide, by decide⟩, by decide, w_740, w_741⟩
theorem B_YL_law_0 {kb wb : Nat} {σ : mx_S} {Q : mx_R → Prop} {l0 : Nat} (K : sK σ + 1 ≤ kb ∧ sW σ + 8 ≤ wb ∧ ∀ σ1 a2, σ1 = mx_al σ (.inl (10, [mN, mN, mN, mN, mN, mN, mN, mI 0])) 8 → a2 = sN σ → ∃ (σ3 : mx_S), mx_MS Y10_init [mR a2] σ1 (.inl (none, σ3)) ∧ sK σ3 ≤ kb ∧ sW σ3 ≤ wb ∧ ∃ (r4 : Int) (σ5 : mx_S), mx_MSN YL_documents [mR a2, mI ((0 : Int))] σ3 (some (mI r4)) σ5 ∧ sK σ5 ≤ kb ∧ sW σ5 ≤ wb ∧ ∀ (n7 : Nat) (σ6 : mx_S), sN σ5 ≤ n7 → σ6 = mx_at_n σ5 n7 → (¬ r4 = (-900001 : Int) → mx_J YL_law kb wb 63 [some (mR l0), some (mR a2), none, none, none, none, none, none, none, none, none, none, none, none, none, none, none, none, none, none, none, none, none] [] σ6 Q) ∧ (¬ (¬ r4 = (-900001 : Int)) → ∃ (r8 : Int) (σ9 : mx_S), mx_MSN YL_add [mR a2] σ6 (some (mI r8)) σ9 ∧ sK σ9 ≤ kb ∧ sW σ9 ≤ wb ∧ ∀ (n11 : Nat) (σ10 : mx_S), sN σ9 ≤ n11 → σ10 = mx_at_n σ9 n11 → (¬ r8 = (-900001 : Int) → mx_J YL_law kb wb 63 [some (mR l0), some (mR a2), none, none, none, none, none, none, none, none, none, none, none, none, none, none, none, none, none, none, none, none, none] [] σ10 Q) ∧ (¬ (¬ r8 = (-900001 : Int)) → ∃ (r12 : Int) (σ13 : mx_S), mx_MSN YL_runs [mR a2, mI ((-1 : Int))] σ10 (some (mI r12)) σ13 ∧ sK σ13 ≤ kb ∧ sW σ13 ≤ wb ∧ ∀ (n15 : Nat) (σ14 : mx_S), sN σ13 ≤ n15 → σ14 = mx_at_n σ13 n15 → (¬ r12 = (0 : Int) → mx_J YL_law kb wb 63 [some (mR l0), some (mR a2), none, none, none, none, none, none, none, none, none, none, none, none, none, none, none, none, none, none, none, none, none] [] σ14 Q) ∧ (¬ (¬ r12 = (0 : Int)) → ∃ (r16 : Int) (σ17 : mx_S), mx_MSN YL_suffixAt [mR a2, mI ((-1 : Int)), mI ((0 : Int)), mI ((120 : Int))] σ14 (some (mI r16)) σ17 ∧ sK σ17 ≤ kb ∧ sW σ17 ≤ wb ∧ ∀ (n19 : Nat) (σ18 : mx_S), sN σ17 ≤ n19 → σ18 = mx_at_n σ17 n19 → (¬ r16 = (-900002 : Int) → mx_J YL_law kb wb 63 [some (mR l0), some (mR a2), none, none, none, none, none, none, none, none, none, none, none, none, none, none, none, none, none, none, none, none, none] [] σ18 Q) ∧ (¬ (¬ r16 = (-900002 : Int)) → ∃ (r20 : Int) (σ21 : mx_S), mx_MSN YL_type [mR a2, mI ((102 : Int))] σ18 (some (mI r20)) σ21 ∧ sK σ21 ≤ kb ∧ sW σ21 ≤ wb ∧ ∀ (n23 : Nat) (σ22 : mx_S), sN σ21 ≤ n23 → σ22 = mx_at_n σ21 n23 → (¬ r20 = (-900001 : Int) → mx_J YL_law kb wb 63 [some (mR l0), some (mR a2), none, none, none, none, none, none, none, none, none, none, none, none, none, none, none, none, none, none, none, none, none] [] σ22 Q) ∧ (¬ (¬ r20 = (-900001 : Int)) → mx_J YL_law kb wb 64 [some (mR l0), some (mR a2), none, none, none, none, none, none, none, none, none, none, none, none, none, none, none, none, none, none, none, none, none] [mI ((1 : Int))] σ22 Q)))))) : mx_J YL_law kb wb 0 [some (mR l0), none, none, none, none, none, none, none, none, none, none, none, none, none, none, none, none, none, none, none, none, none, none] [] σ Q := by
  obtain ⟨hka2, hwa2, K⟩ := K
  replace K := K _ _ rfl rfl
  refine mj_new dL_law_0 nf_YL_law_10 hka2 hwa2 ?_
  change mx_J _ _ _ _ _ (mR (sN σ) :: _) (mx_al σ (.inl (10, [mN, mN, mN, mN, mN, mN, mN, mI 0])) 8) _
  generalize mx_al σ (.inl (10, [mN, mN, mN, mN, mN, mN, mN, mI 0])) 8 = σ1 at K ⊢
  generalize sN σ = a2 at K ⊢
  refine mj_dup dL_law_3 rfl ?_
  obtain ⟨σ3, hMσ3, hkσ3, hwσ3, K⟩ := K
  refine mj_callI (As := []) (rest := [mR a2]) (b := a2) dL_law_4 k_YL_law_92 rfl (Nat.le_of_ble_eq_true rfl) hMσ3 hkσ3 hwσ3 ?_
  refine mj_astore_n (k := 1) (ls' := [some (mR l0), some (mR a2), none, none, none, none, none, none, none, none, none, none, none, none, none, none, none, none, none, none, none, none, none]) dL_law_7 rfl (by decide) rfl ?_
  refine mj_aload_n (k := 1) dL_law_8 rfl rfl ?_
  refine mj_iconst dL_law_9 ⟨by decide, by decide⟩ ?_
  obtain ⟨r4, σ5, hMσ5, hkσ5, hwσ5, K⟩ := K
  refine mj_callSWN (As := [mR a2, mI ((0 : Int))]) (rest := []) dL_law_10 k_YL_law_93 rfl (Nat.le_of_ble_eq_true rfl) hMσ5 hkσ5 hwσ5 (fun n7 hnn7 => ?_)
  replace K := K n7 _ hnn7 rfl
  generalize mx_at_n σ5 n7 = σ6 at K ⊢
  refine mj_ldc (n := (-900001 : Int)) dL_law_13 ⟨by decide, by decide⟩ w_557 ?_
  refine mj_icmp_ne (tgt := 63) dL_law_15 (by decide) ⟨fun h => ?_, fun h => ?_⟩
  · replace K := K.1 h
    exact K
  · replace K := K.2 h
    refine mj_aload_n (k := 1) dL_law_18 rfl rfl ?_
    obtain ⟨r8, σ9, hMσ9, hkσ9, hwσ9, K⟩ := K
    refine mj_callSWN (As := [mR a2]) (rest := []) dL_law_19 k_YL_law_96 rfl (Nat.le_of_ble_eq_true rfl) hMσ9 hkσ9 hwσ9 (fun n11 hnn11 => ?_)
    replace K := K n11 _ hnn11 rfl
    generalize mx_at_n σ9 n11 = σ10 at K ⊢
    refine mj_ldc (n := (-900001 : Int)) dL_law_22 ⟨by decide, by decide⟩ w_557 ?_
    refine mj_icmp_ne (tgt := 63) dL_law_24 (by decide) ⟨fun h => ?_, fun h => ?_⟩
    · replace K := K.1 h
      exact K
    · replace K := K.2 h
      refine mj_aload_n (k := 1) dL_law_27 rfl rfl ?_
      refine mj_iconst dL_law_28 ⟨by decide, by decide⟩ ?_
      obtain ⟨r12, σ13, hMσ13, hkσ13, hwσ13, K⟩ := K
      refine mj_callSWN (As := [mR a2, mI ((-1 : Int))]) (rest := []) dL_law_29 k_YL_law_99 rfl (Nat.le_of_ble_eq_true rfl) hMσ13 hkσ13 hwσ13 (fun n15 hnn15 => ?_)
      replace K := K n15 _ hnn15 rfl
      generalize mx_at_n σ13 n15 = σ14 at K ⊢
      refine mj_if_ne (tgt := 63) dL_law_32 (by decide) ⟨fun h => ?_, fun h => ?_⟩
      · replace K := K.1 h
        exact K
      · replace K := K.2 h
        refine mj_aload_n (k := 1) dL_law_35 rfl rfl ?_
        refine mj_iconst dL_law_36 ⟨by decide, by decide⟩ ?_
        refine mj_iconst dL_law_37 ⟨by decide, by decide⟩ ?_
        refine mj_bipush (n := 120) dL_law_38 ⟨by decide, by decide⟩ (by decide) ?_
        obtain ⟨r16, σ17, hMσ17, hkσ17, hwσ17, K⟩ := K
        refine mj_callSWN (As := [mR a2, mI ((-1 : Int)), mI ((0 : Int)), mI ((120 : Int))]) (rest := []) dL_law_40 k_YL_law_101 rfl (Nat.le_of_ble_eq_true rfl) hMσ17 hkσ17 hwσ17 (fun n19 hnn19 => ?_)
        replace K := K n19 _ hnn19 rfl
        generalize mx_at_n σ17 n19 = σ18 at K ⊢
        refine mj_ldc (n := (-900002 : Int)) dL_law_43 ⟨by decide, by decide⟩ w_558 ?_
        refine mj_icmp_ne (tgt := 63) dL_law_45 (by decide) ⟨fun h => ?_, fun h => ?_⟩
        · replace K := K.1 h
          exact K
        · replace K := K.2 h
          refine mj_aload_n (k := 1) dL_law_48 rfl rfl ?_
          refine mj_bipush (n := 102) dL_law_49 ⟨by decide, by decide⟩ (by decide) ?_
          obtain ⟨r20, σ21, hMσ21, hkσ21, hwσ21, K⟩ := K
          refine mj_callSWN (As := [mR a2, mI ((102 : Int))]) (rest := []) dL_law_51 k_YL_law_89 rfl (Nat.le_of_ble_eq_true rfl) hMσ21 hkσ21 hwσ21 (fun n23 hnn23 => ?_)
          replace K := K n23 _ hnn23 rfl
          generalize mx_at_n σ21 n23 = σ22 at K ⊢
          refine mj_ldc (n := (-900001 : Int)) dL_law_54 ⟨by decide, by decide⟩ w_557 ?_
          refine mj_icmp_ne (tgt := 63) dL_law_56 (by decide) ⟨fun h => ?_, fun h => ?_⟩
          · replace K := K.1 h
            exact K
          · replace K := K.2 h
            refine mj_iconst dL_law_59 ⟨by decide, by decide⟩ ?_
            refine mj_goto (tgt := 64) dL_law_60 (by decide) ?_
            exact K
theorem B_YL_law_63 {kb wb : Nat} {σ : mx_S} {Q : mx_R → Prop} {l0 : Nat} {l1 : Nat} (K : mx_J YL_law kb wb 64 [some (mR l0), some (mR l1), none, none, none, none, none, none, none, none, none, none, none, none, none, none, none, none, none, none, none, none, none] [mI ((0 : Int))] σ Q) : mx_J YL_law kb wb 63 [some (mR l0), some (mR l1), none, none, none, none, none, none, none, none, none, none, none, none, none, none, none, none, none, none, none, none, none] [] σ Q := by
  refine mj_iconst dL_law_63 ⟨by decide, by decide⟩ ?_
  exact K
theorem B_YL_law_64 {kb wb : Nat} {σ : mx_S} {Q : mx_R → Prop} {l0 : Nat} {l1 : Nat} {s0 : Int} (K : ∃ (r2 : Int) (σ1 : mx_S), mx_MS YL_in [mR l0, mI ((0 : Int)), mI ((3 : Int))] σ (.inl (some (mI r2), σ1)) ∧ sK σ1 ≤ kb ∧ sW σ1 ≤ wb ∧ 0 ≤ mx_w ((1 : Int) + r2) ∧ mx_w ((1 : Int) + r2) ≤ 134217728 ∧ sK σ1 + 1 ≤ kb ∧ sW σ1 + (mx_w ((1 : Int) + r2)).toNat ≤ wb ∧ ∀ σ3 a4, σ3 = mx_al σ1 (.inr (3, (mx_w ((1 : Int) + r2)).toNat, fun _ => mN)) (mx_w ((1 : Int) + r2)).toNat → a4 = sN σ1 → mx_J YL_law kb wb 86 [some (mR l0), some (mR l1), some (mI s0), some (mI (mx_w ((1 : Int) + r2))), some (mR a4), some (mI ((0 : Int))), some (mI ((0 : Int))), none, none, none, none, none, none, none, none, none, none, none, none, none, none, none, none] [] σ3 Q) : mx_J YL_law kb wb 64 [some (mR l0), some (mR l1), none, none, none, none, none, none, none, none, none, none, none, none, none, none, none, none, none, none, none, none, none] [mI s0] σ Q := by
  refine mj_istore_n (k := 2) (ls' := [some (mR l0), some (mR l1), some (mI s0), none, none, none, none, none, none, none, none, none, none, none, none, none, none, none, none, none, none, none, none]) dL_law_64 rfl (by decide) rfl ?_
  refine mj_iconst dL_law_65 ⟨by decide, by decide⟩ ?_
  refine mj_aload_n (k := 0) dL_law_66 rfl rfl ?_
  refine mj_iconst dL_law_67 ⟨by decide, by decide⟩ ?_
  refine mj_iconst dL_law_68 ⟨by decide, by decide⟩ ?_
  obtain ⟨r2, σ1, hMσ1, hkσ1, hwσ1, K⟩ := K
  refine mj_callS (As := [mR l0, mI ((0 : Int)), mI ((3 : Int))]) (rest := [mI ((1 : Int))]) dL_law_69 k_YL_law_85 rfl (Nat.le_of_ble_eq_true rfl) hMσ1 hkσ1 hwσ1 ?_
  refine mj_iadd dL_law_72 ?_
  refine mj_istore_n (k := 3) (ls' := [some (mR l0), some (mR l1), some (mI s0), some (mI (mx_w ((1 : Int) + r2))), none, none, none, none, none, none, none, none, none, none, none, none, none, none, none, none, none, none, none]) dL_law_73 rfl (by decide) rfl ?_
  refine mj_iload_n (k := 3) dL_law_74 rfl rfl ?_
  obtain ⟨h0a4, h1a4, hka4, hwa4, K⟩ := K
  replace K := K _ _ rfl rfl
  refine mj_anewC dL_law_75 w_865 h0a4 h1a4 hka4 hwa4 ?_
  generalize mx_al σ1 (.inr (3, (mx_w ((1 : Int) + r2)).toNat, fun _ => mN)) (mx_w ((1 : Int) + r2)).toNat = σ3 at K ⊢
  generalize sN σ1 = a4 at K ⊢
  refine mj_astore (k := 4) (ls' := [some (mR l0), some (mR l1), some (mI s0), some (mI (mx_w ((1 : Int) + r2))), some (mR a4), none, none, none, none, none, none, none, none, none, none, none, none, none, none, none, none, none, none]) dL_law_78 (by decide) rfl ?_
  refine mj_iconst dL_law_80 ⟨by decide, by decide⟩ ?_
  refine mj_istore (k := 5) (ls' := [some (mR l0), some (mR l1), some (mI s0), some (mI (mx_w ((1 : Int) + r2))), some (mR a4), some (mI ((0 : Int))), none, none, none, none, none, none, none, none, none, none, none, none, none, none, none, none, none]) dL_law_81 (by decide) rfl ?_
  refine mj_iconst dL_law_83 ⟨by decide, by decide⟩ ?_
  refine mj_istore (k := 6) (ls' := [some (mR l0), some (mR l1), some (mI s0), some (mI (mx_w ((1 : Int) + r2))), some (mR a4), some (mI ((0 : Int))), some (mI ((0 : Int))), none, none, none, none, none, none, none, none, none, none, none, none, none, none, none, none]) dL_law_84 (by decide) rfl ?_
  exact K
theorem B_YL_law_86 {kb wb : Nat} {σ : mx_S} {Q : mx_R → Prop} {l0 : Nat} {l1 : Nat} {l2 : Int} {l3 : Int} {l4 : Nat} {l5 : Int} {l6 : Int} (K : (l3 ≤ l6 → ∃ (r2 : Int) (σ1 : mx_S), mx_MS YL_in [mR l0, mI ((5 : Int)), mI ((2 : Int))] σ (.inl (some (mI r2), σ1)) ∧ sK σ1 ≤ kb ∧ sW σ1 ≤ wb ∧ (¬ r2 = (0 : Int) → mx_J YL_law kb wb 186 [some (mR l0), some (mR l1), some (mI l2), some (mI l3), some (mR l4), some (mI l5), some (mI l6), none, none, none, none, none, none, none, none, none, none, none, none, none, none, none, none] [mI ((0 : Int))] σ1 Q) ∧ (¬ (¬ r2 = (0 : Int)) → mx_J YL_law kb wb 186 [some (mR l0), some (mR l1), some (mI l2), some (mI l3), some (mR l4), some (mI l5), some (mI l6), none, none, none, none, none, none, none, none, none, none, none, none, none, none, none, none] [mI ((-1 : Int))] σ1 Q)) ∧ (¬ (l3 ≤ l6) → ∃ (r4 : Int) (σ3 : mx_S), mx_MS YL_in [mR l0, mI (mx_w ((1 : Int) + l6)), mI ((9 : Int))] σ (.inl (some (mI r4), σ3)) ∧ sK σ3 ≤ kb ∧ sW σ3 ≤ wb ∧ ∃ (r6 : Nat) (σ5 : mx_S), mx_MS YL_typed [mR l1, mR l0, mI (mx_w ((10 : Int) + mx_w ((20 : Int) * l6))), mI (mx_w ((1 : Int) + r4))] σ3 (.inl (some (mR r6), σ5)) ∧ sK σ5 ≤ kb ∧ sW σ5 ≤ wb ∧ ∃ (n7 m9 : Nat) (f g : Nat → mx_V), sH σ5 (l4) = some (.inr (3, n7, f)) ∧ sB σ5 ≤ l4 ∧ 0 ≤ l6 ∧ l6 < (n7 : Int) ∧ sH σ5 (r6) = some (.inr (1, m9, g)) ∧ ∀ σ8, σ8 = mx_wr σ5 (l4) (.inr (3, n7, upV f (l6).toNat (mR r6))) → ∃ (r10 : Int) (σ11 : mx_S), mx_MSN YL_add [mR l1] σ8 (some (mI r10)) σ11 ∧ sK σ11 ≤ kb ∧ sW σ11 ≤ wb ∧ ∀ (n13 : Nat) (σ12 : mx_S), sN σ11 ≤ n13 → σ12 = mx_at_n σ11 n13 → (¬ r10 = l6 → mx_J YL_law kb wb 152 [some (mR l0), some (mR l1), some (mI l2), some (mI l3), some (mR l4), some (mI l5), some (mI l6), none, none, none, none, none, none, none, none, none, none, none, none, none, none, none, none] [mI l2] σ12 Q) ∧ (¬ (¬ r10 = l6) → ∃ (r14 : Int) (σ15 : mx_S), mx_MSN YL_lengthOf [mR l1, mI ((-1 : Int)), mI l6] σ12 (some (mI r14)) σ15 ∧ sK σ15 ≤ kb ∧ sW σ15 ≤ wb ∧ ∀ (n17 : Nat) (σ16 : mx_S), sN σ15 ≤ n17 → σ16 = mx_at_n σ15 n17 → ∃ (kd n18 : Nat) (f : Nat → mx_V), sH σ16 (l4) = some (.inr (kd, n18, f)) ∧ 2 ≤ kd ∧ 0 ≤ l6 ∧ l6 < (n18 : Int) ∧ ∃ x19, f (l6).toNat = mR x19 ∧ ∃ (kd n20 : Nat) (f : Nat → mx_V), sH σ16 (x19) = some (.inr (kd, n20, f)) ∧ (¬ r14 = (n20 : Int) → mx_J YL_law kb wb 152 [some (mR l0), some (mR l1), some (mI l2), some (mI l3), some (mR l4), some (mI l5), some (mI l6), none, none, none, none, none, none, none, none, none, none, none, none, none, none, none, none] [mI l2] σ16 Q) ∧ (¬ (¬ r14 = (n20 : Int)) → mx_J YL_law kb wb 153 [some (mR l0), some (mR l1), some (mI l2), some (mI l3), some (mR l4), some (mI l5), some (mI l6), none, none, none, none, none, none, none, none, none, none, none, none, none, none, none, none] [mI ((1 : Int)), mI l2] σ16 Q)))) : mx_J YL_law kb wb 86 [some (mR l0), some (mR l1), some (mI l2), some (mI l3), some (mR l4), some (mI l5), some (mI l6), none, none, none, none, none, none, none, none, none, none, none, none, none, none, none, none] [] σ Q := by
  refine mj_iload (k := 6) dL_law_86 rfl ?_
  refine mj_iload_n (k := 3) dL_law_88 rfl rfl ?_
  refine mj_icmp_ge (tgt := 172) dL_law_89 (by decide) ⟨fun h => ?_, fun h => ?_⟩
  · replace K := K.1 h
    refine mj_aload_n (k := 0) dL_law_172 rfl rfl ?_
    refine mj_iconst dL_law_173 ⟨by decide, by decide⟩ ?_
    refine mj_iconst dL_law_174 ⟨by decide, by decide⟩ ?_
    obtain ⟨r2, σ1, hMσ1, hkσ1, hwσ1, K⟩ := K
    refine mj_callS (As := [mR l0, mI ((5 : Int)), mI ((2 : Int))]) (rest := []) dL_law_175 k_YL_law_85 rfl (Nat.le_of_ble_eq_true rfl) hMσ1 hkσ1 hwσ1 ?_
    refine mj_if_ne (tgt := 185) dL_law_178 (by decide) ⟨fun h => ?_, fun h => ?_⟩
    · replace K := K.1 h
      refine mj_iconst dL_law_185 ⟨by decide, by decide⟩ ?_
      exact K
    · replace K := K.2 h
      refine mj_iconst dL_law_181 ⟨by decide, by decide⟩ ?_
      refine mj_goto (tgt := 186) dL_law_182 (by decide) ?_
      exact K
  · replace K := K.2 h
    refine mj_aload (k := 4) dL_law_92 rfl ?_
    refine mj_iload (k := 6) dL_law_94 rfl ?_
    refine mj_aload_n (k := 1) dL_law_96 rfl rfl ?_
    refine mj_aload_n (k := 0) dL_law_97 rfl rfl ?_
    refine mj_bipush (n := 10) dL_law_98 ⟨by decide, by decide⟩ (by decide) ?_
    refine mj_bipush (n := 20) dL_law_100 ⟨by decide, by decide⟩ (by decide) ?_
    refine mj_iload (k := 6) dL_law_102 rfl ?_
    refine mj_imul dL_law_104 ?_
    refine mj_iadd dL_law_105 ?_
    refine mj_iconst dL_law_106 ⟨by decide, by decide⟩ ?_
    refine mj_aload_n (k := 0) dL_law_107 rfl rfl ?_
    refine mj_iconst dL_law_108 ⟨by decide, by decide⟩ ?_
    refine mj_iload (k := 6) dL_law_109 rfl ?_
    refine mj_iadd dL_law_111 ?_
    refine mj_bipush (n := 9) dL_law_112 ⟨by decide, by decide⟩ (by decide) ?_
    obtain ⟨r4, σ3, hMσ3, hkσ3, hwσ3, K⟩ := K
    refine mj_callS (As := [mR l0, mI (mx_w ((1 : Int) + l6)), mI ((9 : Int))]) (rest := [mI ((1 : Int)), mI (mx_w ((10 : Int) + mx_w ((20 : Int) * l6))), mR l0, mR l1, mI l6, mR l4]) dL_law_114 k_YL_law_85 rfl (Nat.le_of_ble_eq_true rfl) hMσ3 hkσ3 hwσ3 ?_
    refine mj_iadd dL_law_117 ?_
    obtain ⟨r6, σ5, hMσ5, hkσ5, hwσ5, K⟩ := K
    refine mj_callS (As := [mR l1, mR l0, mI (mx_w ((10 : Int) + mx_w ((20 : Int) * l6))), mI (mx_w ((1 : Int) + r4))]) (rest := [mI l6, mR l4]) dL_law_118 k_YL_law_106 rfl (Nat.le_of_ble_eq_true rfl) hMσ5 hkσ5 hwσ5 ?_
    obtain ⟨n7, m9, fn7, gn7, hfn7, hbn7, h0n7, h1n7, hvn7, K⟩ := K
    replace K := K _ rfl
    refine mj_aastC dL_law_121 hfn7 hbn7 h0n7 h1n7 hvn7 ?_
    generalize mx_wr σ5 (l4) (.inr (3, n7, upV fn7 (l6).toNat (mR r6))) = σ8 at K ⊢
    refine mj_iload_n (k := 2) dL_law_122 rfl rfl ?_
    refine mj_aload_n (k := 1) dL_law_123 rfl rfl ?_
    obtain ⟨r10, σ11, hMσ11, hkσ11, hwσ11, K⟩ := K
    refine mj_callSWN (As := [mR l1]) (rest := [mI l2]) dL_law_124 k_YL_law_96 rfl (Nat.le_of_ble_eq_true rfl) hMσ11 hkσ11 hwσ11 (fun n13 hnn13 => ?_)
    replace K := K n13 _ hnn13 rfl
    generalize mx_at_n σ11 n13 = σ12 at K ⊢
    refine mj_iload (k := 6) dL_law_127 rfl ?_
    refine mj_icmp_ne (tgt := 152) dL_law_129 (by decide) ⟨fun h => ?_, fun h => ?_⟩
    · replace K := K.1 h
      exact K
    · replace K := K.2 h
      refine mj_aload_n (k := 1) dL_law_132 rfl rfl ?_
      refine mj_iconst dL_law_133 ⟨by decide, by decide⟩ ?_
      refine mj_iload (k := 6) dL_law_134 rfl ?_
      obtain ⟨r14, σ15, hMσ15, hkσ15, hwσ15, K⟩ := K
      refine mj_callSWN (As := [mR l1, mI ((-1 : Int)), mI l6]) (rest := [mI l2]) dL_law_136 k_YL_law_110 rfl (Nat.le_of_ble_eq_true rfl) hMσ15 hkσ15 hwσ15 (fun n17 hnn17 => ?_)
      replace K := K n17 _ hnn17 rfl
      generalize mx_at_n σ15 n17 = σ16 at K ⊢
      refine mj_aload (k := 4) dL_law_139 rfl ?_
      refine mj_iload (k := 6) dL_law_141 rfl ?_
      obtain ⟨kd, n18, fn18, hfn18, hrn18, h0n18, h1n18, x19, hxx19, K⟩ := K
      refine mj_aald dL_law_143 hfn18 hrn18 h0n18 h1n18 ?_
      rw [hxx19]
      obtain ⟨kd, n20, fn20, hfn20, K⟩ := K
      refine mj_alen dL_law_144 hfn20 ?_
      refine mj_icmp_ne (tgt := 152) dL_law_145 (by decide) ⟨fun h => ?_, fun h => ?_⟩
      · replace K := K.1 h
        exact K
      · replace K := K.2 h
        refine mj_iconst dL_law_148 ⟨by decide, by decide⟩ ?_
        refine mj_goto (tgt := 153) dL_law_149 (by decide) ?_
        exact K
theorem B_YL_law_186 {kb wb : Nat} {σ : mx_S} {Q : mx_R → Prop} {l0 : Nat} {l1 : Nat} {l2 : Int} {l3 : Int} {l4 : Nat} {l5 : Int} {l6 : Int} {s0 : Int} (K : (¬ s0 = (0 : Int) → mx_J YL_law kb wb 244 [some (mR l0), some (mR l1), some (mI l2), some (mI l3), some (mR l4), some (mI l5), some (mI s0), none, none, none, none, none, none, none, none, none, none, none, none, none, none, none, none] [] σ Q) ∧ (¬ (¬ s0 = (0 : Int)) → ∃ (r1 : Int) (σ2 : mx_S), mx_MSN YL_snapshot [mR l1] σ (some (mI r1)) σ2 ∧ sK σ2 ≤ kb ∧ sW σ2 ≤ wb ∧ ∀ (n4 : Nat) (σ3 : mx_S), sN σ2 ≤ n4 → σ3 = mx_at_n σ2 n4 → (¬ r1 = (0 : Int) → mx_J YL_law kb wb 206 [some (mR l0), some (mR l1), some (mI l2), some (mI l3), some (mR l4), some (mI l5), some (mI s0), none, none, none, none, none, none, none, none, none, none, none, none, none, none, none, none] [mI ((0 : Int)), mI l2] σ3 Q) ∧ (¬ (¬ r1 = (0 : Int)) → mx_J YL_law kb wb 206 [some (mR l0), some (mR l1), some (mI l2), some (mI l3), some (mR l4), some (mI l5), some (mI s0), none, none, none, none, none, none, none, none, none, none, none, none, none, none, none, none] [mI ((1 : Int)), mI l2] σ3 Q))) : mx_J YL_law kb wb 186 [some (mR l0), some (mR l1), some (mI l2), some (mI l3), some (mR l4), some (mI l5), some (mI l6), none, none, none, none, none, none, none, none, none, none, none, none, none, none, none, none] [mI s0] σ Q := by
  refine mj_istore (k := 6) (ls' := [some (mR l0), some (mR l1), some (mI l2), some (mI l3), some (mR l4), some (mI l5), some (mI s0), none, none, none, none, none, none, none, none, none, none, none, none, none, none, none, none]) dL_law_186 (by decide) rfl ?_
  refine mj_iload (k := 6) dL_law_188 rfl ?_
  refine mj_if_ne (tgt := 244) dL_law_190 (by decide) ⟨fun h => ?_, fun h => ?_⟩
  · replace K := K.1 h
    exact K
  · replace K := K.2 h
    refine mj_iload_n (k := 2) dL_law_193 rfl rfl ?_
    refine mj_aload_n (k := 1) dL_law_194 rfl rfl ?_
    obtain ⟨r1, σ2, hMσ2, hkσ2, hwσ2, K⟩ := K
    refine mj_callSWN (As := [mR l1]) (rest := [mI l2]) dL_law_195 k_YL_law_113 rfl (Nat.le_of_ble_eq_true rfl) hMσ2 hkσ2 hwσ2 (fun n4 hnn4 => ?_)
    replace K := K n4 _ hnn4 rfl
    generalize mx_at_n σ2 n4 = σ3 at K ⊢
    refine mj_if_ne (tgt := 205) dL_law_198 (by decide) ⟨fun h => ?_, fun h => ?_⟩
    · replace K := K.1 h
      refine mj_iconst dL_law_205 ⟨by decide, by decide⟩ ?_
      exact K
    · replace K := K.2 h
      refine mj_iconst dL_law_201 ⟨by decide, by decide⟩ ?_
      refine mj_goto (tgt := 206) dL_law_202 (by decide) ?_
      exact K
theorem B_YL_law_152 {kb wb : Nat} {σ : mx_S} {Q : mx_R → Prop} {l0 : Nat} {l1 : Nat} {l2 : Int} {l3 : Int} {l4 : Nat} {l5 : Int} {l6 : Int} {s0 : Int} (K : mx_J YL_law kb wb 153 [some (mR l0), some (mR l1), some (mI l2), some (mI l3), some (mR l4), some (mI l5), some (mI l6), none, none, none, none, none, none, none, none, none, none, none, none, none, none, none, none] [mI ((0 : Int)), mI s0] σ Q) : mx_J YL_law kb wb 152 [some (mR l0), some (mR l1), some (mI l2), some (mI l3), some (mR l4), some (mI l5), some (mI l6), none, none, none, none, none, none, none, none, none, none, none, none, none, none, none, none] [mI s0] σ Q := by
  refine mj_iconst dL_law_152 ⟨by decide, by decide⟩ ?_
  exact K
theorem B_YL_law_153 {kb wb : Nat} {σ : mx_S} {Q : mx_R → Prop} {l0 : Nat} {l1 : Nat} {l2 : Int} {l3 : Int} {l4 : Nat} {l5 : Int} {l6 : Int} {s0 : Int} {s1 : Int} (K : ∃ (kd n1 : Nat) (f : Nat → mx_V), sH σ (l4) = some (.inr (kd, n1, f)) ∧ 2 ≤ kd ∧ 0 ≤ l6 ∧ l6 < (n1 : Int) ∧ ∃ x2, f (l6).toNat = mR x2 ∧ ∃ (kd n3 : Nat) (f : Nat → mx_V), sH σ (x2) = some (.inr (kd, n3, f)) ∧ mx_J YL_law kb wb 86 [some (mR l0), some (mR l1), some (mI (mx_and (s1) (s0))), some (mI l3), some (mR l4), some (mI (mx_w (l5 + (n3 : Int)))), some (mI (mx_w (l6 + (1 : Int)))), none, none, none, none, none, none, none, none, none, none, none, none, none, none, none, none] [] σ Q) : mx_J YL_law kb wb 153 [some (mR l0), some (mR l1), some (mI l2), some (mI l3), some (mR l4), some (mI l5), some (mI l6), none, none, none, none, none, none, none, none, none, none, none, none, none, none, none, none] [mI s0, mI s1] σ Q := by
  refine mj_iand dL_law_153 ?_
  refine mj_istore_n (k := 2) (ls' := [some (mR l0), some (mR l1), some (mI (mx_and (s1) (s0))), some (mI l3), some (mR l4), some (mI l5), some (mI l6), none, none, none, none, none, none, none, none, none, none, none, none, none, none, none, none]) dL_law_154 rfl (by decide) rfl ?_
  refine mj_iload (k := 5) dL_law_155 rfl ?_
  refine mj_aload (k := 4) dL_law_157 rfl ?_
  refine mj_iload (k := 6) dL_law_159 rfl ?_
  obtain ⟨kd, n1, fn1, hfn1, hrn1, h0n1, h1n1, x2, hxx2, K⟩ := K
  refine mj_aald dL_law_161 hfn1 hrn1 h0n1 h1n1 ?_
  rw [hxx2]
  obtain ⟨kd, n3, fn3, hfn3, K⟩ := K
  refine mj_alen dL_law_162 hfn3 ?_
  refine mj_iadd dL_law_163 ?_
  refine mj_istore (k := 5) (ls' := [some (mR l0), some (mR l1), some (mI (mx_and (s1) (s0))), some (mI l3), some (mR l4), some (mI (mx_w (l5 + (n3 : Int)))), some (mI l6), none, none, none, none, none, none, none, none, none, none, none, none, none, none, none, none]) dL_law_164 (by decide) rfl ?_
  refine mj_iinc (k := 6) (ls' := [some (mR l0), some (mR l1), some (mI (mx_and (s1) (s0))), some (mI l3), some (mR l4), some (mI (mx_w (l5 + (n3 : Int)))), some (mI (mx_w (l6 + (1 : Int)))), none, none, none, none, none, none, none, none, none, none, none, none, none, none, none, none]) dL_law_166 rfl (by decide) rfl ?_
  refine mj_goto (tgt := 86) dL_law_169 (by decide) ?_
  exact K
theorem B_YL_law_244 {kb wb : Nat} {σ : mx_S} {Q : mx_R → Prop} {l0 : Nat} {l1 : Nat} {l2 : Int} {l3 : Int} {l4 : Nat} {l5 : Int} {l6 : Int} (K : 0 ≤ l5 ∧ l5 ≤ 134217728 ∧ sK σ + 1 ≤ kb ∧ sW σ + (l5).toNat ≤ wb ∧ ∀ σ1 a2, σ1 = mx_al σ (.inr (0, (l5).toNat, fun _ => mI 0)) (l5).toNat → a2 = sN σ → 0 ≤ l5 ∧ l5 ≤ 134217728 ∧ sK σ1 + 1 ≤ kb ∧ sW σ1 + (l5).toNat ≤ wb ∧ ∀ σ3 a4, σ3 = mx_al σ1 (.inr (0, (l5).toNat, fun _ => mI 0)) (l5).toNat → a4 = sN σ1 → mx_J YL_law kb wb 262 [some (mR l0), some (mR l1), some (mI l2), some (mI l3), some (mR l4), some (mI l5), some (mI l6), some (mR a2), some (mR a4), some (mI ((0 : Int))), some (mI ((0 : Int))), none, none, none, none, none, none, none, none, none, none, none, none] [] σ3 Q) : mx_J YL_law kb wb 244 [some (mR l0), some (mR l1), some (mI l2), some (mI l3), some (mR l4), some (mI l5), some (mI l6), none, none, none, none, none, none, none, none, none, none, none, none, none, none, none, none] [] σ Q := by
  refine mj_iload (k := 5) dL_law_244 rfl ?_
  obtain ⟨h0a2, h1a2, hka2, hwa2, K⟩ := K
  replace K := K _ _ rfl rfl
  refine mj_newa (kd := 0) dL_law_246 (by decide) w_94 h0a2 h1a2 hka2 hwa2 ?_
  generalize mx_al σ (.inr (0, (l5).toNat, fun _ => mI 0)) (l5).toNat = σ1 at K ⊢
  generalize sN σ = a2 at K ⊢
  refine mj_astore (k := 7) (ls' := [some (mR l0), some (mR l1), some (mI l2), some (mI l3), some (mR l4), some (mI l5), some (mI l6), some (mR a2), none, none, none, none, none, none, none, none, none, none, none, none, none, none, none]) dL_law_248 (by decide) rfl ?_
  refine mj_iload (k := 5) dL_law_250 rfl ?_
  obtain ⟨h0a4, h1a4, hka4, hwa4, K⟩ := K
  replace K := K _ _ rfl rfl
  refine mj_newa (kd := 0) dL_law_252 (by decide) w_94 h0a4 h1a4 hka4 hwa4 ?_
  generalize mx_al σ1 (.inr (0, (l5).toNat, fun _ => mI 0)) (l5).toNat = σ3 at K ⊢
  generalize sN σ1 = a4 at K ⊢
  refine mj_astore (k := 8) (ls' := [some (mR l0), some (mR l1), some (mI l2), some (mI l3), some (mR l4), some (mI l5), some (mI l6), some (mR a2), some (mR a4), none, none, none, none, none, none, none, none, none, none, none, none, none, none]) dL_law_254 (by decide) rfl ?_
  refine mj_iconst dL_law_256 ⟨by decide, by decide⟩ ?_
  refine mj_istore (k := 9) (ls' := [some (mR l0), some (mR l1), some (mI l2), some (mI l3), some (mR l4), some (mI l5), some (mI l6), some (mR a2), some (mR a4), some (mI ((0 : Int))), none, none, none, none, none, none, none, none, none, none, none, none, none]) dL_law_257 (by decide) rfl ?_
  refine mj_iconst dL_law_259 ⟨by decide, by decide⟩ ?_
  refine mj_istore (k := 10) (ls' := [some (mR l0), some (mR l1), some (mI l2), some (mI l3), some (mR l4), some (mI l5), some (mI l6), some (mR a2), some (mR a4), some (mI ((0 : Int))), some (mI ((0 : Int))), none, none, none, none, none, none, none, none, none, none, none, none]) dL_law_260 (by decide) rfl ?_
  exact K
theorem B_YL_law_206 {kb wb : Nat} {σ : mx_S} {Q : mx_R → Prop} {l0 : Nat} {l1 : Nat} {l2 : Int} {l3 : Int} {l4 : Nat} {l5 : Int} {l6 : Int} {s0 : Int} {s1 : Int} (K : ∃ (r2 : Nat) (σ1 : mx_S), mx_MS YL_typed [mR l1, mR l0, mI ((80 : Int)), mI ((3 : Int))] σ (.inl (some (mR r2), σ1)) ∧ sK σ1 ≤ kb ∧ sW σ1 ≤ wb ∧ ∃ (r3 : Int) (σ4 : mx_S), mx_MSN YL_insert [mR l1, mI ((0 : Int)), mI ((0 : Int))] σ1 (some (mI r3)) σ4 ∧ sK σ4 ≤ kb ∧ sW σ4 ≤ wb ∧ ∀ (n6 : Nat) (σ5 : mx_S), sN σ4 ≤ n6 → σ5 = mx_at_n σ4 n6 → ∃ (kd n7 : Nat) (f : Nat → mx_V), sH σ5 (l4) = some (.inr (kd, n7, f)) ∧ 2 ≤ kd ∧ 0 ≤ (0 : Int) ∧ (0 : Int) < (n7 : Int) ∧ ∃ x8, f ((0 : Int)).toNat = mR x8 ∧ ∃ (kd n9 : Nat) (f : Nat → mx_V), sH σ5 (x8) = some (.inr (kd, n9, f)) ∧ ∃ (kd n10 : Nat) (f : Nat → mx_V), sH σ5 (r2) = some (.inr (kd, n10, f)) ∧ (¬ r3 = mx_w ((n9 : Int) + (n10 : Int)) → mx_J YL_law kb wb 244 [some (mR l0), some (mR l1), some (mI (mx_and (mx_and (s1) (s0)) ((0 : Int)))), some (mI l3), some (mR l4), some (mI l5), some (mI l6), none, none, none, none, none, none, none, none, none, none, none, none, none, none, none, none] [] σ5 Q) ∧ (¬ (¬ r3 = mx_w ((n9 : Int) + (n10 : Int))) → mx_J YL_law kb wb 244 [some (mR l0), some (mR l1), some (mI (mx_and (mx_and (s1) (s0)) ((1 : Int)))), some (mI l3), some (mR l4), some (mI l5), some (mI l6), none, none, none, none, none, none, none, none, none, none, none, none, none, none, none, none] [] σ5 Q)) : mx_J YL_law kb wb 206 [some (mR l0), some (mR l1), some (mI l2), some (mI l3), some (mR l4), some (mI l5), some (mI l6), none, none, none, none, none, none, none, none, none, none, none, none, none, none, none, none] [mI s0, mI s1] σ Q := by
  refine mj_iand dL_law_206 ?_
  refine mj_istore_n (k := 2) (ls' := [some (mR l0), some (mR l1), some (mI (mx_and (s1) (s0))), some (mI l3), some (mR l4), some (mI l5), some (mI l6), none, none, none, none, none, none, none, none, none, none, none, none, none, none, none, none]) dL_law_207 rfl (by decide) rfl ?_
  refine mj_aload_n (k := 1) dL_law_208 rfl rfl ?_
  refine mj_aload_n (k := 0) dL_law_209 rfl rfl ?_
  refine mj_bipush (n := 80) dL_law_210 ⟨by decide, by decide⟩ (by decide) ?_
  refine mj_iconst dL_law_212 ⟨by decide, by decide⟩ ?_
  obtain ⟨r2, σ1, hMσ1, hkσ1, hwσ1, K⟩ := K
  refine mj_callS (As := [mR l1, mR l0, mI ((80 : Int)), mI ((3 : Int))]) (rest := []) dL_law_213 k_YL_law_106 rfl (Nat.le_of_ble_eq_true rfl) hMσ1 hkσ1 hwσ1 ?_
  refine mj_astore (k := 7) (ls' := [some (mR l0), some (mR l1), some (mI (mx_and (s1) (s0))), some (mI l3), some (mR l4), some (mI l5), some (mI l6), some (mR r2), none, none, none, none, none, none, none, none, none, none, none, none, none, none, none]) dL_law_216 (by decide) rfl ?_
  refine mj_iload_n (k := 2) dL_law_218 rfl rfl ?_
  refine mj_aload_n (k := 1) dL_law_219 rfl rfl ?_
  refine mj_iconst dL_law_220 ⟨by decide, by decide⟩ ?_
  refine mj_iconst dL_law_221 ⟨by decide, by decide⟩ ?_
  obtain ⟨r3, σ4, hMσ4, hkσ4, hwσ4, K⟩ := K
  refine mj_callSWN (As := [mR l1, mI ((0 : Int)), mI ((0 : Int))]) (rest := [mI (mx_and (s1) (s0))]) dL_law_222 k_YL_law_115 rfl (Nat.le_of_ble_eq_true rfl) hMσ4 hkσ4 hwσ4 (fun n6 hnn6 => ?_)
  replace K := K n6 _ hnn6 rfl
  generalize mx_at_n σ4 n6 = σ5 at K ⊢
  refine mj_aload (k := 4) dL_law_225 rfl ?_
  refine mj_iconst dL_law_227 ⟨by decide, by decide⟩ ?_
  obtain ⟨kd, n7, fn7, hfn7, hrn7, h0n7, h1n7, x8, hxx8, K⟩ := K
  refine mj_aald dL_law_228 hfn7 hrn7 h0n7 h1n7 ?_
  rw [hxx8]
  obtain ⟨kd, n9, fn9, hfn9, K⟩ := K
  refine mj_alen dL_law_229 hfn9 ?_
  refine mj_aload (k := 7) dL_law_230 rfl ?_
  obtain ⟨kd, n10, fn10, hfn10, K⟩ := K
  refine mj_alen dL_law_232 hfn10 ?_
  refine mj_iadd dL_law_233 ?_
  refine mj_icmp_ne (tgt := 241) dL_law_234 (by decide) ⟨fun h => ?_, fun h => ?_⟩
  · replace K := K.1 h
    refine mj_iconst dL_law_241 ⟨by decide, by decide⟩ ?_
    refine mj_iand dL_law_242 ?_
    refine mj_istore_n (k := 2) (ls' := [some (mR l0), some (mR l1), some (mI (mx_and (mx_and (s1) (s0)) ((0 : Int)))), some (mI l3), some (mR l4), some (mI l5), some (mI l6), some (mR r2), none, none, none, none, none, none, none, none, none, none, none, none, none, none, none]) dL_law_243 rfl (by decide) rfl ?_
    exact mj_forget (ls' := [some (mR l0), some (mR l1), some (mI (mx_and (mx_and (s1) (s0)) ((0 : Int)))), some (mI l3), some (mR l4), some (mI l5), some (mI l6), none, none, none, none, none, none, none, none, none, none, none, none, none, none, none, none]) ⟨rfl, ⟨rfl, ⟨rfl, ⟨rfl, ⟨rfl, ⟨rfl, ⟨rfl, trivial⟩⟩⟩⟩⟩⟩⟩ K
  · replace K := K.2 h
    refine mj_iconst dL_law_237 ⟨by decide, by decide⟩ ?_
    refine mj_goto (tgt := 242) dL_law_238 (by decide) ?_
    refine mj_iand dL_law_242 ?_
    refine mj_istore_n (k := 2) (ls' := [some (mR l0), some (mR l1), some (mI (mx_and (mx_and (s1) (s0)) ((1 : Int)))), some (mI l3), some (mR l4), some (mI l5), some (mI l6), some (mR r2), none, none, none, none, none, none, none, none, none, none, none, none, none, none, none]) dL_law_243 rfl (by decide) rfl ?_
    exact mj_forget (ls' := [some (mR l0), some (mR l1), some (mI (mx_and (mx_and (s1) (s0)) ((1 : Int)))), some (mI l3), some (mR l4), some (mI l5), some (mI l6), none, none, none, none, none, none, none, none, none, none, none, none, none, none, none, none]) ⟨rfl, ⟨rfl, ⟨rfl, ⟨rfl, ⟨rfl, ⟨rfl, ⟨rfl, trivial⟩⟩⟩⟩⟩⟩⟩ K
theorem B_YL_law_262 {kb wb : Nat} {σ : mx_S} {Q : mx_R → Prop} {l0 : Nat} {l1 : Nat} {l2 : Int} {l3 : Int} {l4 : Nat} {l5 : Int} {l6 : Int} {l7 : Nat} {l8 : Nat} {l9 : Int} {l10 : Int} (K : (l3 ≤ l10 → 0 ≤ (4 : Int) ∧ (4 : Int) ≤ 134217728 ∧ sK σ + 1 ≤ kb ∧ sW σ + ((4 : Int)).toNat ≤ wb ∧ ∀ σ1 a2, σ1 = mx_al σ (.inr (0, ((4 : Int)).toNat, fun _ => mI 0)) ((4 : Int)).toNat → a2 = sN σ → mx_J YL_law kb wb 546 [some (mR l0), some (mR l1), some (mI l2), some (mI l3), some (mR l4), some (mI l5), some (mI l6), some (mR l7), some (mR l8), some (mI l9), some (mI ((0 : Int))), some (mI ((32 : Int))), some (mR a2), some (mI ((0 : Int))), none, none, none, none, none, none, none, none, none] [] σ1 Q) ∧ (¬ (l3 ≤ l10) → mx_J YL_law kb wb 271 [some (mR l0), some (mR l1), some (mI l2), some (mI l3), some (mR l4), some (mI l5), some (mI l6), some (mR l7), some (mR l8), some (mI l9), some (mI l10), some (mI ((0 : Int))), none, none, none, none, none, none, none, none, none, none, none] [] σ Q)) : mx_J YL_law kb wb 262 [some (mR l0), some (mR l1), some (mI l2), some (mI l3), some (mR l4), some (mI l5), some (mI l6), some (mR l7), some (mR l8), some (mI l9), some (mI l10), none, none, none, none, none, none, none, none, none, none, none, none] [] σ Q := by
  refine mj_iload (k := 10) dL_law_262 rfl ?_
  refine mj_iload_n (k := 3) dL_law_264 rfl rfl ?_
  refine mj_icmp_ge (tgt := 531) dL_law_265 (by decide) ⟨fun h => ?_, fun h => ?_⟩
  · replace K := K.1 h
    refine mj_iconst dL_law_531 ⟨by decide, by decide⟩ ?_
    refine mj_istore (k := 10) (ls' := [some (mR l0), some (mR l1), some (mI l2), some (mI l3), some (mR l4), some (mI l5), some (mI l6), some (mR l7), some (mR l8), some (mI l9), some (mI ((0 : Int))), none, none, none, none, none, none, none, none, none, none, none, none]) dL_law_532 (by decide) rfl ?_
    refine mj_bipush (n := 32) dL_law_534 ⟨by decide, by decide⟩ (by decide) ?_
    refine mj_istore (k := 11) (ls' := [some (mR l0), some (mR l1), some (mI l2), some (mI l3), some (mR l4), some (mI l5), some (mI l6), some (mR l7), some (mR l8), some (mI l9), some (mI ((0 : Int))), some (mI ((32 : Int))), none, none, none, none, none, none, none, none, none, none, none]) dL_law_536 (by decide) rfl ?_
    refine mj_iconst dL_law_538 ⟨by decide, by decide⟩ ?_
    obtain ⟨h0a2, h1a2, hka2, hwa2, K⟩ := K
    replace K := K _ _ rfl rfl
    refine mj_newa (kd := 0) dL_law_539 (by decide) w_94 h0a2 h1a2 hka2 hwa2 ?_
    generalize mx_al σ (.inr (0, ((4 : Int)).toNat, fun _ => mI 0)) ((4 : Int)).toNat = σ1 at K ⊢
    generalize sN σ = a2 at K ⊢
    refine mj_astore (k := 12) (ls' := [some (mR l0), some (mR l1), some (mI l2), some (mI l3), some (mR l4), some (mI l5), some (mI l6), some (mR l7), some (mR l8), some (mI l9), some (mI ((0 : Int))), some (mI ((32 : Int))), some (mR a2), none, none, none, none, none, none, none, none, none, none]) dL_law_541 (by decide) rfl ?_
    refine mj_iconst dL_law_543 ⟨by decide, by decide⟩ ?_
    refine mj_istore (k := 13) (ls' := [some (mR l0), some (mR l1), some (mI l2), some (mI l3), some (mR l4), some (mI l5), some (mI l6), some (mR l7), some (mR l8), some (mI l9), some (mI ((0 : Int))), some (mI ((32 : Int))), some (mR a2), some (mI ((0 : Int))), none, none, none, none, none, none, none, none, none]) dL_law_544 (by decide) rfl ?_
    exact K
  · replace K := K.2 h
    refine mj_iconst dL_law_268 ⟨by decide, by decide⟩ ?_
    refine mj_istore (k := 11) (ls' := [some (mR l0), some (mR l1), some (mI l2), some (mI l3), some (mR l4), some (mI l5), some (mI l6), some (mR l7), some (mR l8), some (mI l9), some (mI l10), some (mI ((0 : Int))), none, none, none, none, none, none, none, none, none, none, none]) dL_law_269 (by decide) rfl ?_
    exact K
theorem B_YL_law_546 {kb wb : Nat} {σ : mx_S} {Q : mx_R → Prop} {l0 : Nat} {l1 : Nat} {l2 : Int} {l3 : Int} {l4 : Nat} {l5 : Int} {l6 : Int} {l7 : Nat} {l8 : Nat} {l9 : Int} {l10 : Int} {l11 : Int} {l12 : Nat} {l13 : Int} (K : (l5 ≤ l13 → ∃ (r1 : Int) (σ2 : mx_S), mx_MSN YL_runs [mR l1, mI l6] σ (some (mI r1)) σ2 ∧ sK σ2 ≤ kb ∧ sW σ2 ≤ wb ∧ ∀ (n4 : Nat) (σ3 : mx_S), sN σ2 ≤ n4 → σ3 = mx_at_n σ2 n4 → (¬ r1 = l10 → mx_J YL_law kb wb 802 [some (mR l0), some (mR l1), some (mI l2), some (mI l3), some (mR l4), some (mI l5), some (mI l6), some (mR l7), some (mR l8), some (mI l9), some (mI l10), some (mI l11), some (mR l12), some (mI l13), none, none, none, none, none, none, none, none, none] [mI l2] σ3 Q) ∧ (¬ (¬ r1 = l10) → ∃ (r5 : Int) (σ6 : mx_S), mx_MSN YL_turned [mR l1, mI l6, mI l5] σ3 (some (mI r5)) σ6 ∧ sK σ6 ≤ kb ∧ sW σ6 ≤ wb ∧ ∀ (n8 : Nat) (σ7 : mx_S), sN σ6 ≤ n8 → σ7 = mx_at_n σ6 n8 → (¬ r5 = (-900002 : Int) → mx_J YL_law kb wb 802 [some (mR l0), some (mR l1), some (mI l2), some (mI l3), some (mR l4), some (mI l5), some (mI l6), some (mR l7), some (mR l8), some (mI l9), some (mI l10), some (mI l11), some (mR l12), some (mI l13), none, none, none, none, none, none, none, none, none] [mI l2] σ7 Q) ∧ (¬ (¬ r5 = (-900002 : Int)) → ∃ (r9 : Int) (σ10 : mx_S), mx_MSN YL_ahead [mR l1, mI l6, mI ((36 : Int)), mI l5] σ7 (some (mI r9)) σ10 ∧ sK σ10 ≤ kb ∧ sW σ10 ≤ wb ∧ ∀ (n12 : Nat) (σ11 : mx_S), sN σ10 ≤ n12 → σ11 = mx_at_n σ10 n12 → (¬ r9 = l3 → mx_J YL_law kb wb 802 [some (mR l0), some (mR l1), some (mI l2), some (mI l3), some (mR l4), some (mI l5), some (mI l6), some (mR l7), some (mR l8), some (mI l9), some (mI l10), some (mI l11), some (mR l12), some (mI l13), none, none, none, none, none, none, none, none, none] [mI l2] σ11 Q) ∧ (¬ (¬ r9 = l3) → ∃ (fs : List mx_V), sH σ11 (l1) = some (.inl (10, fs)) ∧ ((∃ (r14 : UInt32) (σ13 : mx_S), mx_MS Y10_runShare [mR l1, mI l6] σ11 (.inl (some (mF (r14)), σ13)) ∧ sK σ13 ≤ kb ∧ sW σ13 ≤ wb ∧ vf_n32 (FP.fdiv (FP.i2f (Int32.ofInt (l10))) (FP.i2f (Int32.ofInt (l5)))) ∧ (¬ (Op.cmpValue (FP.fcmp (r14) (FP.fdiv (FP.i2f (Int32.ofInt (l10))) (FP.i2f (Int32.ofInt (l5))))) .l).toInt = (0 : Int) → mx_J YL_law kb wb 802 [some (mR l0), some (mR l1), some (mI l2), some (mI l3), some (mR l4), some (mI l5), some (mI l6), some (mR l7), some (mR l8), some (mI l9), some (mI l10), some (mI l11), some (mR l12), some (mI l13), none, none, none, none, none, none, none, none, none] [mI l2] σ13 Q) ∧ (¬ (¬ (Op.cmpValue (FP.fcmp (r14) (FP.fdiv (FP.i2f (Int32.ofInt (l10))) (FP.i2f (Int32.ofInt (l5))))) .l).toInt = (0 : Int)) → mx_J YL_law kb wb 803 [some (mR l0), some (mR l1), some (mI l2), some (mI l3), some (mR l4), some (mI l5), some (mI l6), some (mR l7), some (mR l8), some (mI l9), some (mI l10), some (mI l11), some (mR l12), some (mI l13), none, none, none, none, none, none, none, none, none] [mI ((1 : Int)), mI l2] σ13 Q)) ∨ (∃ (E16 : String) (σ17 : mx_S), mx_MS Y10_runShare [mR l1, mI l6] σ11 (.inr (E16, σ17)) ∧ sK σ17 ≤ kb ∧ sW σ17 ≤ wb ∧ Q (.inr (E16, σ17)))))))) ∧ (¬ (l5 ≤ l13) → ∃ (n18 : Nat) (f : Nat → mx_V), sH σ (l8) = some (.inr (0, n18, f)) ∧ 0 ≤ l13 ∧ l13 < (n18 : Int) ∧ ∃ x19, f (l13).toNat = mI x19 ∧ (¬ x19 = (0 : Int) → ∃ (n20 : Nat) (f : Nat → mx_V), sH σ (l7) = some (.inr (0, n20, f)) ∧ 0 ≤ l13 ∧ l13 < (n20 : Int) ∧ ∃ x21, f (l13).toNat = mI x21 ∧ ∃ (kd n22 : Nat) (f : Nat → mx_V), sH σ (l4) = some (.inr (kd, n22, f)) ∧ 2 ≤ kd ∧ 0 ≤ x21 ∧ x21 < (n22 : Int) ∧ ∃ x23, f (x21).toNat = mR x23 ∧ ∃ (n24 : Nat) (f : Nat → mx_V), sH σ (l8) = some (.inr (0, n24, f)) ∧ 0 ≤ l13 ∧ l13 < (n24 : Int) ∧ ∃ x25, f (l13).toNat = mI x25 ∧ ∃ (n26 : Nat) (f : Nat → mx_V), sH σ (x23) = some (.inr (1, n26, f)) ∧ 0 ≤ mx_w (x25 - (1 : Int)) ∧ mx_w (x25 - (1 : Int)) < (n26 : Int) ∧ ∃ x27, f (mx_w (x25 - (1 : Int))).toNat = mI x27 ∧ mx_J YL_law kb wb 582 [some (mR l0), some (mR l1), some (mI l2), some (mI l3), some (mR l4), some (mI l5), some (mI l6), some (mR l7), some (mR l8), some (mI l9), some (mI l10), some (mI l11), some (mR l12), some (mI l13), none, none, none, none, none, none, none, none, none] [mI x27] σ Q) ∧ (¬ (¬ x19 = (0 : Int)) → mx_J YL_law kb wb 582 [some (mR l0), some (mR l1), some (mI l2), some (mI l3), some (mR l4), some (mI l5), some (mI l6), some (mR l7), some (mR l8), some (mI l9), some (mI l10), some (mI l11), some (mR l12), some (mI l13), none, none, none, none, none, none, none, none, none] [mI ((36 : Int))] σ Q))) : mx_J YL_law kb wb 546 [some (mR l0), some (mR l1), some (mI l2), some (mI l3), some (mR l4), some (mI l5), some (mI l6), some (mR l7), some (mR l8), some (mI l9), some (mI l10), some (mI l11), some (mR l12), some (mI l13), none, none, none, none, none, none, none, none, none] [] σ Q := by
  refine mj_iload (k := 13) dL_law_546 rfl ?_
  refine mj_iload (k := 5) dL_law_548 rfl ?_
  refine mj_icmp_ge (tgt := 742) dL_law_550 (by decide) ⟨fun h => ?_, fun h => ?_⟩
  · replace K := K.1 h
    refine mj_iload_n (k := 2) dL_law_742 rfl rfl ?_
    refine mj_aload_n (k := 1) dL_law_743 rfl rfl ?_
    refine mj_iload (k := 6) dL_law_744 rfl ?_
    obtain ⟨r1, σ2, hMσ2, hkσ2, hwσ2, K⟩ := K
    refine mj_callSWN (As := [mR l1, mI l6]) (rest := [mI l2]) dL_law_746 k_YL_law_99 rfl (Nat.le_of_ble_eq_true rfl) hMσ2 hkσ2 hwσ2 (fun n4 hnn4 => ?_)
    replace K := K n4 _ hnn4 rfl
    generalize mx_at_n σ2 n4 = σ3 at K ⊢
    refine mj_iload (k := 10) dL_law_749 rfl ?_
    refine mj_icmp_ne (tgt := 802) dL_law_751 (by decide) ⟨fun h => ?_, fun h => ?_⟩
    · replace K := K.1 h
      exact K
    · replace K := K.2 h
      refine mj_aload_n (k := 1) dL_law_754 rfl rfl ?_
      refine mj_iload (k := 6) dL_law_755 rfl ?_
      refine mj_iload (k := 5) dL_law_757 rfl ?_
      obtain ⟨r5, σ6, hMσ6, hkσ6, hwσ6, K⟩ := K
      refine mj_callSWN (As := [mR l1, mI l6, mI l5]) (rest := [mI l2]) dL_law_759 k_YL_law_120 rfl (Nat.le_of_ble_eq_true rfl) hMσ6 hkσ6 hwσ6 (fun n8 hnn8 => ?_)
      replace K := K n8 _ hnn8 rfl
      generalize mx_at_n σ6 n8 = σ7 at K ⊢
      refine mj_ldc (n := (-900002 : Int)) dL_law_762 ⟨by decide, by decide⟩ w_558 ?_
      refine mj_icmp_ne (tgt := 802) dL_law_764 (by decide) ⟨fun h => ?_, fun h => ?_⟩
      · replace K := K.1 h
        exact K
      · replace K := K.2 h
        refine mj_aload_n (k := 1) dL_law_767 rfl rfl ?_
        refine mj_iload (k := 6) dL_law_768 rfl ?_
        refine mj_bipush (n := 36) dL_law_770 ⟨by decide, by decide⟩ (by decide) ?_
        refine mj_iload (k := 5) dL_law_772 rfl ?_
        obtain ⟨r9, σ10, hMσ10, hkσ10, hwσ10, K⟩ := K
        refine mj_callSWN (As := [mR l1, mI l6, mI ((36 : Int)), mI l5]) (rest := [mI l2]) dL_law_774 k_YL_law_117 rfl (Nat.le_of_ble_eq_true rfl) hMσ10 hkσ10 hwσ10 (fun n12 hnn12 => ?_)
        replace K := K n12 _ hnn12 rfl
        generalize mx_at_n σ10 n12 = σ11 at K ⊢
        refine mj_iload_n (k := 3) dL_law_777 rfl rfl ?_
        refine mj_icmp_ne (tgt := 802) dL_law_778 (by decide) ⟨fun h => ?_, fun h => ?_⟩
        · replace K := K.1 h
          exact K
        · replace K := K.2 h
          refine mj_aload_n (k := 1) dL_law_781 rfl rfl ?_
          refine mj_iload (k := 6) dL_law_782 rfl ?_
          obtain ⟨fs15, hbfs15, K⟩ := K
          rcases K with ⟨r14, σ13, hMσ13, hkσ13, hwσ13, K⟩ | ⟨E16, σ17, hMσ17, hkσ17, hwσ17, K⟩
          · refine mj_callV (As := [mI l6]) (rest := [mI l2]) (b := l1) dL_law_784 k_YL_law_125 rfl hbfs15 rfl (Nat.le_of_ble_eq_true rfl) hMσ13 hkσ13 hwσ13 ?_
            refine mj_iload (k := 10) dL_law_787 rfl ?_
            refine mj_i2f dL_law_789 ?_
            refine mj_iload (k := 5) dL_law_790 rfl ?_
            refine mj_i2f dL_law_792 ?_
            obtain ⟨hne, K⟩ := K
            refine mj_fdiv dL_law_793 hne ?_
            refine mj_fcmp dL_law_794 ?_
            refine mj_if_ne (tgt := 802) dL_law_795 (by decide) ⟨fun h => ?_, fun h => ?_⟩
            · replace K := K.1 h
              exact K
            · replace K := K.2 h
              refine mj_iconst dL_law_798 ⟨by decide, by decide⟩ ?_
              refine mj_goto (tgt := 803) dL_law_799 (by decide) ?_
              exact K
          · exact mj_callVX_out (As := [mI l6]) (rest := [mI l2]) (b := l1) dL_law_784 k_YL_law_125 rfl hbfs15 rfl (Nat.le_of_ble_eq_true rfl) hMσ17 hkσ17 hwσ17 (fun z hz => by cases hz) K
  · replace K := K.2 h
    refine mj_aload (k := 8) dL_law_553 rfl ?_
    refine mj_iload (k := 13) dL_law_555 rfl ?_
    obtain ⟨n18, fn18, hfn18, h0n18, h1n18, x19, hxx19, K⟩ := K
    refine mj_iald dL_law_557 hfn18 h0n18 h1n18 ?_
    rw [hxx19]
    refine mj_if_ne (tgt := 566) dL_law_558 (by decide) ⟨fun h => ?_, fun h => ?_⟩
    · replace K := K.1 h
      refine mj_aload (k := 4) dL_law_566 rfl ?_
      refine mj_aload (k := 7) dL_law_568 rfl ?_
      refine mj_iload (k := 13) dL_law_570 rfl ?_
      obtain ⟨n20, fn20, hfn20, h0n20, h1n20, x21, hxx21, K⟩ := K
      refine mj_iald dL_law_572 hfn20 h0n20 h1n20 ?_
      rw [hxx21]
      obtain ⟨kd, n22, fn22, hfn22, hrn22, h0n22, h1n22, x23, hxx23, K⟩ := K
      refine mj_aald dL_law_573 hfn22 hrn22 h0n22 h1n22 ?_
      rw [hxx23]
      refine mj_aload (k := 8) dL_law_574 rfl ?_
      refine mj_iload (k := 13) dL_law_576 rfl ?_
      obtain ⟨n24, fn24, hfn24, h0n24, h1n24, x25, hxx25, K⟩ := K
      refine mj_iald dL_law_578 hfn24 h0n24 h1n24 ?_
      rw [hxx25]
      refine mj_iconst dL_law_579 ⟨by decide, by decide⟩ ?_
      refine mj_isub dL_law_580 ?_
      obtain ⟨n26, fn26, hfn26, h0n26, h1n26, x27, hxx27, K⟩ := K
      refine mj_cald dL_law_581 hfn26 h0n26 h1n26 ?_
      rw [hxx27]
      exact K
    · replace K := K.2 h
      refine mj_bipush (n := 36) dL_law_561 ⟨by decide, by decide⟩ (by decide) ?_
      refine mj_goto (tgt := 582) dL_law_563 (by decide) ?_
      exact K
theorem B_YL_law_271 {kb wb : Nat} {σ : mx_S} {Q : mx_R → Prop} {l0 : Nat} {l1 : Nat} {l2 : Int} {l3 : Int} {l4 : Nat} {l5 : Int} {l6 : Int} {l7 : Nat} {l8 : Nat} {l9 : Int} {l10 : Int} {l11 : Int} (K : ∃ (kd n1 : Nat) (f : Nat → mx_V), sH σ (l4) = some (.inr (kd, n1, f)) ∧ 2 ≤ kd ∧ 0 ≤ l10 ∧ l10 < (n1 : Int) ∧ ∃ x2, f (l10).toNat = mR x2 ∧ ∃ (kd n3 : Nat) (f : Nat → mx_V), sH σ (x2) = some (.inr (kd, n3, f)) ∧ ((n3 : Int) ≤ l11 → mx_J YL_law kb wb 262 [some (mR l0), some (mR l1), some (mI l2), some (mI l3), some (mR l4), some (mI l5), some (mI l6), some (mR l7), some (mR l8), some (mI l9), some (mI (mx_w (l10 + (1 : Int)))), none, none, none, none, none, none, none, none, none, none, none, none] [] σ Q) ∧ (¬ ((n3 : Int) ≤ l11) → mx_J YL_law kb wb 289 [some (mR l0), some (mR l1), some (mI l2), some (mI l3), some (mR l4), some (mI l5), some (mI l6), some (mR l7), some (mR l8), some (mI l9), some (mI l10), some (mI l11), some (mI l9), some (mI ((1 : Int))), none, none, none, none, none, none, none, none, none] [] σ Q)) : mx_J YL_law kb wb 271 [some (mR l0), some (mR l1), some (mI l2), some (mI l3), some (mR l4), some (mI l5), some (mI l6), some (mR l7), some (mR l8), some (mI l9), some (mI l10), some (mI l11), none, none, none, none, none, none, none, none, none, none, none] [] σ Q := by
  refine mj_iload (k := 11) dL_law_271 rfl ?_
  refine mj_aload (k := 4) dL_law_273 rfl ?_
  refine mj_iload (k := 10) dL_law_275 rfl ?_
  obtain ⟨kd, n1, fn1, hfn1, hrn1, h0n1, h1n1, x2, hxx2, K⟩ := K
  refine mj_aald dL_law_277 hfn1 hrn1 h0n1 h1n1 ?_
  rw [hxx2]
  obtain ⟨kd, n3, fn3, hfn3, K⟩ := K
  refine mj_alen dL_law_278 hfn3 ?_
  refine mj_icmp_ge (tgt := 525) dL_law_279 (by decide) ⟨fun h => ?_, fun h => ?_⟩
  · replace K := K.1 h
    refine mj_iinc (k := 10) (ls' := [some (mR l0), some (mR l1), some (mI l2), some (mI l3), some (mR l4), some (mI l5), some (mI l6), some (mR l7), some (mR l8), some (mI l9), some (mI (mx_w (l10 + (1 : Int)))), some (mI l11), none, none, none, none, none, none, none, none, none, none, none]) dL_law_525 rfl (by decide) rfl ?_
    refine mj_goto (tgt := 262) dL_law_528 (by decide) ?_
    exact mj_forget (ls' := [some (mR l0), some (mR l1), some (mI l2), some (mI l3), some (mR l4), some (mI l5), some (mI l6), some (mR l7), some (mR l8), some (mI l9), some (mI (mx_w (l10 + (1 : Int)))), none, none, none, none, none, none, none, none, none, none, none, none]) ⟨rfl, ⟨rfl, ⟨rfl, ⟨rfl, ⟨rfl, ⟨rfl, ⟨rfl, ⟨rfl, ⟨rfl, ⟨rfl, ⟨rfl, trivial⟩⟩⟩⟩⟩⟩⟩⟩⟩⟩⟩ K
  · replace K := K.2 h
    refine mj_iload (k := 9) dL_law_282 rfl ?_
    refine mj_istore (k := 12) (ls' := [some (mR l0), some (mR l1), some (mI l2), some (mI l3), some (mR l4), some (mI l5), some (mI l6), some (mR l7), some (mR l8), some (mI l9), some (mI l10), some (mI l11), some (mI l9), none, none, none, none, none, none, none, none, none, none]) dL_law_284 (by decide) rfl ?_
    refine mj_iconst dL_law_286 ⟨by decide, by decide⟩ ?_
    refine mj_istore (k := 13) (ls' := [some (mR l0), some (mR l1), some (mI l2), some (mI l3), some (mR l4), some (mI l5), some (mI l6), some (mR l7), some (mR l8), some (mI l9), some (mI l10), some (mI l11), some (mI l9), some (mI ((1 : Int))), none, none, none, none, none, none, none, none, none]) dL_law_287 (by decide) rfl ?_
    exact K
theorem B_YL_law_802 {kb wb : Nat} {σ : mx_S} {Q : mx_R → Prop} {l0 : Nat} {l1 : Nat} {l2 : Int} {l3 : Int} {l4 : Nat} {l5 : Int} {l6 : Int} {l7 : Nat} {l8 : Nat} {l9 : Int} {l10 : Int} {l11 : Int} {l12 : Nat} {l13 : Int} {s0 : Int} (K : mx_J YL_law kb wb 803 [some (mR l0), some (mR l1), some (mI l2), some (mI l3), some (mR l4), some (mI l5), some (mI l6), some (mR l7), some (mR l8), some (mI l9), some (mI l10), some (mI l11), some (mR l12), some (mI l13), none, none, none, none, none, none, none, none, none] [mI ((0 : Int)), mI s0] σ Q) : mx_J YL_law kb wb 802 [some (mR l0), some (mR l1), some (mI l2), some (mI l3), some (mR l4), some (mI l5), some (mI l6), some (mR l7), some (mR l8), some (mI l9), some (mI l10), some (mI l11), some (mR l12), some (mI l13), none, none, none, none, none, none, none, none, none] [mI s0] σ Q := by
  refine mj_iconst dL_law_802 ⟨by decide, by decide⟩ ?_
  exact K
theorem B_YL_law_803 {kb wb : Nat} {σ : mx_S} {Q : mx_R → Prop} {l0 : Nat} {l1 : Nat} {l2 : Int} {l3 : Int} {l4 : Nat} {l5 : Int} {l6 : Int} {l7 : Nat} {l8 : Nat} {l9 : Int} {l10 : Int} {l11 : Int} {l12 : Nat} {l13 : Int} {s0 : Int} {s1 : Int} (K : ∃ (r2 : Int) (σ1 : mx_S), mx_MS YL_in [mR l0, mI ((6 : Int)), mI ((3 : Int))] σ (.inl (some (mI r2), σ1)) ∧ sK σ1 ≤ kb ∧ sW σ1 ≤ wb ∧ ∃ (r4 : Nat) (σ3 : mx_S), mx_MS YL_typed [mR l1, mR l0, mI ((90 : Int)), mI (mx_w ((1 : Int) + r2))] σ1 (.inl (some (mR r4), σ3)) ∧ sK σ3 ≤ kb ∧ sW σ3 ≤ wb ∧ mx_J YL_law kb wb 826 [some (mR l0), some (mR l1), some (mI (mx_and (s1) (s0))), some (mI l3), some (mR l4), some (mI l5), some (mI l6), some (mR l7), some (mR l8), some (mI l9), some (mI l10), some (mI l11), some (mR l12), some (mR r4), some (mI ((0 : Int))), none, none, none, none, none, none, none, none] [] σ3 Q) : mx_J YL_law kb wb 803 [some (mR l0), some (mR l1), some (mI l2), some (mI l3), some (mR l4), some (mI l5), some (mI l6), some (mR l7), some (mR l8), some (mI l9), some (mI l10), some (mI l11), some (mR l12), some (mI l13), none, none, none, none, none, none, none, none, none] [mI s0, mI s1] σ Q := by
  refine mj_iand dL_law_803 ?_
  refine mj_istore_n (k := 2) (ls' := [some (mR l0), some (mR l1), some (mI (mx_and (s1) (s0))), some (mI l3), some (mR l4), some (mI l5), some (mI l6), some (mR l7), some (mR l8), some (mI l9), some (mI l10), some (mI l11), some (mR l12), some (mI l13), none, none, none, none, none, none, none, none, none]) dL_law_804 rfl (by decide) rfl ?_
  refine mj_aload_n (k := 1) dL_law_805 rfl rfl ?_
  refine mj_aload_n (k := 0) dL_law_806 rfl rfl ?_
  refine mj_bipush (n := 90) dL_law_807 ⟨by decide, by decide⟩ (by decide) ?_
  refine mj_iconst dL_law_809 ⟨by decide, by decide⟩ ?_
  refine mj_aload_n (k := 0) dL_law_810 rfl rfl ?_
  refine mj_bipush (n := 6) dL_law_811 ⟨by decide, by decide⟩ (by decide) ?_
  refine mj_iconst dL_law_813 ⟨by decide, by decide⟩ ?_
  obtain ⟨r2, σ1, hMσ1, hkσ1, hwσ1, K⟩ := K
  refine mj_callS (As := [mR l0, mI ((6 : Int)), mI ((3 : Int))]) (rest := [mI ((1 : Int)), mI ((90 : Int)), mR l0, mR l1]) dL_law_814 k_YL_law_85 rfl (Nat.le_of_ble_eq_true rfl) hMσ1 hkσ1 hwσ1 ?_
  refine mj_iadd dL_law_817 ?_
  obtain ⟨r4, σ3, hMσ3, hkσ3, hwσ3, K⟩ := K
  refine mj_callS (As := [mR l1, mR l0, mI ((90 : Int)), mI (mx_w ((1 : Int) + r2))]) (rest := []) dL_law_818 k_YL_law_106 rfl (Nat.le_of_ble_eq_true rfl) hMσ3 hkσ3 hwσ3 ?_
  refine mj_astore (k := 13) (ls' := [some (mR l0), some (mR l1), some (mI (mx_and (s1) (s0))), some (mI l3), some (mR l4), some (mI l5), some (mI l6), some (mR l7), some (mR l8), some (mI l9), some (mI l10), some (mI l11), some (mR l12), some (mR r4), none, none, none, none, none, none, none, none, none]) dL_law_821 (by decide) rfl ?_
  refine mj_iconst dL_law_823 ⟨by decide, by decide⟩ ?_
  refine mj_istore (k := 14) (ls' := [some (mR l0), some (mR l1), some (mI (mx_and (s1) (s0))), some (mI l3), some (mR l4), some (mI l5), some (mI l6), some (mR l7), some (mR l8), some (mI l9), some (mI l10), some (mI l11), some (mR l12), some (mR r4), some (mI ((0 : Int))), none, none, none, none, none, none, none, none]) dL_law_824 (by decide) rfl ?_
  exact K
theorem B_YL_law_582 {kb wb : Nat} {σ : mx_S} {Q : mx_R → Prop} {l0 : Nat} {l1 : Nat} {l2 : Int} {l3 : Int} {l4 : Nat} {l5 : Int} {l6 : Int} {l7 : Nat} {l8 : Nat} {l9 : Int} {l10 : Int} {l11 : Int} {l12 : Nat} {l13 : Int} {s0 : Int} (K : (¬ s0 = l11 → mx_J YL_law kb wb 598 [some (mR l0), some (mR l1), some (mI l2), some (mI l3), some (mR l4), some (mI l5), some (mI l6), some (mR l7), some (mR l8), some (mI l9), some (mI l10), some (mI l11), some (mR l12), some (mI l13), some (mI s0), none, none, none, none, none, none, none, none] [mI ((1 : Int)), mI l10] σ Q) ∧ (¬ (¬ s0 = l11) → mx_J YL_law kb wb 598 [some (mR l0), some (mR l1), some (mI l2), some (mI l3), some (mR l4), some (mI l5), some (mI l6), some (mR l7), some (mR l8), some (mI l9), some (mI l10), some (mI l11), some (mR l12), some (mI l13), some (mI s0), none, none, none, none, none, none, none, none] [mI ((0 : Int)), mI l10] σ Q)) : mx_J YL_law kb wb 582 [some (mR l0), some (mR l1), some (mI l2), some (mI l3), some (mR l4), some (mI l5), some (mI l6), some (mR l7), some (mR l8), some (mI l9), some (mI l10), some (mI l11), some (mR l12), some (mI l13), none, none, none, none, none, none, none, none, none] [mI s0] σ Q := by
  refine mj_istore (k := 14) (ls' := [some (mR l0), some (mR l1), some (mI l2), some (mI l3), some (mR l4), some (mI l5), some (mI l6), some (mR l7), some (mR l8), some (mI l9), some (mI l10), some (mI l11), some (mR l12), some (mI l13), some (mI s0), none, none, none, none, none, none, none, none]) dL_law_582 (by decide) rfl ?_
  refine mj_iload (k := 10) dL_law_584 rfl ?_
  refine mj_iload (k := 14) dL_law_586 rfl ?_
  refine mj_iload (k := 11) dL_law_588 rfl ?_
  refine mj_icmp_ne (tgt := 597) dL_law_590 (by decide) ⟨fun h => ?_, fun h => ?_⟩
  · replace K := K.1 h
    refine mj_iconst dL_law_597 ⟨by decide, by decide⟩ ?_
    exact K
  · replace K := K.2 h
    refine mj_iconst dL_law_593 ⟨by decide, by decide⟩ ?_
    refine mj_goto (tgt := 598) dL_law_594 (by decide) ?_
    exact K
theorem B_YL_law_289 {kb wb : Nat} {σ : mx_S} {Q : mx_R → Prop} {l0 : Nat} {l1 : Nat} {l2 : Int} {l3 : Int} {l4 : Nat} {l5 : Int} {l6 : Int} {l7 : Nat} {l8 : Nat} {l9 : Int} {l10 : Int} {l11 : Int} {l12 : Int} {l13 : Int} (K : (l12 ≤ (0 : Int) → mx_J YL_law kb wb 502 [some (mR l0), some (mR l1), some (mI l2), some (mI l3), some (mR l4), some (mI l5), some (mI l6), some (mR l7), some (mR l8), some (mI l9), some (mI l10), some (mI l11), some (mI l12), some (mI l13), none, none, none, none, none, none, none, none, none] [] σ Q) ∧ (¬ (l12 ≤ (0 : Int)) → (l13 = (0 : Int) → mx_J YL_law kb wb 502 [some (mR l0), some (mR l1), some (mI l2), some (mI l3), some (mR l4), some (mI l5), some (mI l6), some (mR l7), some (mR l8), some (mI l9), some (mI l10), some (mI l11), some (mI l12), some (mI l13), none, none, none, none, none, none, none, none, none] [] σ Q) ∧ (¬ (l13 = (0 : Int)) → ∃ (n1 : Nat) (f : Nat → mx_V), sH σ (l7) = some (.inr (0, n1, f)) ∧ 0 ≤ mx_w (l12 - (1 : Int)) ∧ mx_w (l12 - (1 : Int)) < (n1 : Int) ∧ ∃ x2, f (mx_w (l12 - (1 : Int))).toNat = mI x2 ∧ ∃ (kd n3 : Nat) (f : Nat → mx_V), sH σ (l4) = some (.inr (kd, n3, f)) ∧ 2 ≤ kd ∧ 0 ≤ x2 ∧ x2 < (n3 : Int) ∧ ∃ x4, f (x2).toNat = mR x4 ∧ ∃ (n5 : Nat) (f : Nat → mx_V), sH σ (l8) = some (.inr (0, n5, f)) ∧ 0 ≤ mx_w (l12 - (1 : Int)) ∧ mx_w (l12 - (1 : Int)) < (n5 : Int) ∧ ∃ x6, f (mx_w (l12 - (1 : Int))).toNat = mI x6 ∧ mx_J YL_law kb wb 323 [some (mR l0), some (mR l1), some (mI l2), some (mI l3), some (mR l4), some (mI l5), some (mI l6), some (mR l7), some (mR l8), some (mI l9), some (mI l10), some (mI l11), some (mI l12), some (mI l13), some (mR x4), some (mI x6), some (mI ((0 : Int))), none, none, none, none, none, none] [] σ Q))) : mx_J YL_law kb wb 289 [some (mR l0), some (mR l1), some (mI l2), some (mI l3), some (mR l4), some (mI l5), some (mI l6), some (mR l7), some (mR l8), some (mI l9), some (mI l10), some (mI l11), some (mI l12), some (mI l13), none, none, none, none, none, none, none, none, none] [] σ Q := by
  refine mj_iload (k := 12) dL_law_289 rfl ?_
  refine mj_if_le (tgt := 502) dL_law_291 (by decide) ⟨fun h => ?_, fun h => ?_⟩
  · replace K := K.1 h
    exact K
  · replace K := K.2 h
    refine mj_iload (k := 13) dL_law_294 rfl ?_
    refine mj_if_eq (tgt := 502) dL_law_296 (by decide) ⟨fun h => ?_, fun h => ?_⟩
    · replace K := K.1 h
      exact K
    · replace K := K.2 h
      refine mj_aload (k := 4) dL_law_299 rfl ?_
      refine mj_aload (k := 7) dL_law_301 rfl ?_
      refine mj_iload (k := 12) dL_law_303 rfl ?_
      refine mj_iconst dL_law_305 ⟨by decide, by decide⟩ ?_
      refine mj_isub dL_law_306 ?_
      obtain ⟨n1, fn1, hfn1, h0n1, h1n1, x2, hxx2, K⟩ := K
      refine mj_iald dL_law_307 hfn1 h0n1 h1n1 ?_
      rw [hxx2]
      obtain ⟨kd, n3, fn3, hfn3, hrn3, h0n3, h1n3, x4, hxx4, K⟩ := K
      refine mj_aald dL_law_308 hfn3 hrn3 h0n3 h1n3 ?_
      rw [hxx4]
      refine mj_astore (k := 14) (ls' := [some (mR l0), some (mR l1), some (mI l2), some (mI l3), some (mR l4), some (mI l5), some (mI l6), some (mR l7), some (mR l8), some (mI l9), some (mI l10), some (mI l11), some (mI l12), some (mI l13), some (mR x4), none, none, none, none, none, none, none, none]) dL_law_309 (by decide) rfl ?_
      refine mj_aload (k := 8) dL_law_311 rfl ?_
      refine mj_iload (k := 12) dL_law_313 rfl ?_
      refine mj_iconst dL_law_315 ⟨by decide, by decide⟩ ?_
      refine mj_isub dL_law_316 ?_
      obtain ⟨n5, fn5, hfn5, h0n5, h1n5, x6, hxx6, K⟩ := K
      refine mj_iald dL_law_317 hfn5 h0n5 h1n5 ?_
      rw [hxx6]
      refine mj_istore (k := 15) (ls' := [some (mR l0), some (mR l1), some (mI l2), some (mI l3), some (mR l4), some (mI l5), some (mI l6), some (mR l7), some (mR l8), some (mI l9), some (mI l10), some (mI l11), some (mI l12), some (mI l13), some (mR x4), some (mI x6), none, none, none, none, none, none, none]) dL_law_318 (by decide) rfl ?_
      refine mj_iconst dL_law_320 ⟨by decide, by decide⟩ ?_
      refine mj_istore (k := 16) (ls' := [some (mR l0), some (mR l1), some (mI l2), some (mI l3), some (mR l4), some (mI l5), some (mI l6), some (mR l7), some (mR l8), some (mI l9), some (mI l10), some (mI l11), some (mI l12), some (mI l13), some (mR x4), some (mI x6), some (mI ((0 : Int))), none, none, none, none, none, none]) dL_law_321 (by decide) rfl ?_
      exact K
theorem B_YL_law_826 {kb wb : Nat} {σ : mx_S} {Q : mx_R → Prop} {l0 : Nat} {l1 : Nat} {l2 : Int} {l3 : Int} {l4 : Nat} {l5 : Int} {l6 : Int} {l7 : Nat} {l8 : Nat} {l9 : Int} {l10 : Int} {l11 : Int} {l12 : Nat} {l13 : Nat} {l14 : Int} (K : ∃ (kd n1 : Nat) (f : Nat → mx_V), sH σ (l13) = some (.inr (kd, n1, f)) ∧ ((n1 : Int) < l14 → mx_J YL_law kb wb 1014 [some (mR l0), some (mR l1), some (mI l2), some (mI l3), some (mR l4), some (mI l5), some (mI l6), some (mR l7), some (mR l8), some (mI l9), some (mI l10), some (mI l11), some (mR l12), some (mR l13), some (mI ((0 : Int))), some (mI ((0 : Int))), none, none, none, none, none, none, none] [] σ Q) ∧ (¬ ((n1 : Int) < l14) → mx_J YL_law kb wb 843 [some (mR l0), some (mR l1), some (mI l2), some (mI l3), some (mR l4), some (mI l5), some (mI l6), some (mR l7), some (mR l8), some (mI l9), some (mI l10), some (mI l11), some (mR l12), some (mR l13), some (mI l14), some (mI ((0 : Int))), some (mI ((0 : Int))), some (mI ((0 : Int))), none, none, none, none, none] [] σ Q)) : mx_J YL_law kb wb 826 [some (mR l0), some (mR l1), some (mI l2), some (mI l3), some (mR l4), some (mI l5), some (mI l6), some (mR l7), some (mR l8), some (mI l9), some (mI l10), some (mI l11), some (mR l12), some (mR l13), some (mI l14), none, none, none, none, none, none, none, none] [] σ Q := by
  refine mj_iload (k := 14) dL_law_826 rfl ?_
  refine mj_aload (k := 13) dL_law_828 rfl ?_
  obtain ⟨kd, n1, fn1, hfn1, K⟩ := K
  refine mj_alen dL_law_830 hfn1 ?_
  refine mj_icmp_gt (tgt := 1008) dL_law_831 (by decide) ⟨fun h => ?_, fun h => ?_⟩
  · replace K := K.1 h
    refine mj_iconst dL_law_1008 ⟨by decide, by decide⟩ ?_
    refine mj_istore (k := 14) (ls' := [some (mR l0), some (mR l1), some (mI l2), some (mI l3), some (mR l4), some (mI l5), some (mI l6), some (mR l7), some (mR l8), some (mI l9), some (mI l10), some (mI l11), some (mR l12), some (mR l13), some (mI ((0 : Int))), none, none, none, none, none, none, none, none]) dL_law_1009 (by decide) rfl ?_
    refine mj_iconst dL_law_1011 ⟨by decide, by decide⟩ ?_
    refine mj_istore (k := 15) (ls' := [some (mR l0), some (mR l1), some (mI l2), some (mI l3), some (mR l4), some (mI l5), some (mI l6), some (mR l7), some (mR l8), some (mI l9), some (mI l10), some (mI l11), some (mR l12), some (mR l13), some (mI ((0 : Int))), some (mI ((0 : Int))), none, none, none, none, none, none, none]) dL_law_1012 (by decide) rfl ?_
    exact K
  · replace K := K.2 h
    refine mj_iconst dL_law_834 ⟨by decide, by decide⟩ ?_
    refine mj_istore (k := 15) (ls' := [some (mR l0), some (mR l1), some (mI l2), some (mI l3), some (mR l4), some (mI l5), some (mI l6), some (mR l7), some (mR l8), some (mI l9), some (mI l10), some (mI l11), some (mR l12), some (mR l13), some (mI l14), some (mI ((0 : Int))), none, none, none, none, none, none, none]) dL_law_835 (by decide) rfl ?_
    refine mj_iconst dL_law_837 ⟨by decide, by decide⟩ ?_
    refine mj_istore (k := 16) (ls' := [some (mR l0), some (mR l1), some (mI l2), some (mI l3), some (mR l4), some (mI l5), some (mI l6), some (mR l7), some (mR l8), some (mI l9), some (mI l10), some (mI l11), some (mR l12), some (mR l13), some (mI l14), some (mI ((0 : Int))), some (mI ((0 : Int))), none, none, none, none, none, none]) dL_law_838 (by decide) rfl ?_
    refine mj_iconst dL_law_840 ⟨by decide, by decide⟩ ?_
    refine mj_istore (k := 17) (ls' := [some (mR l0), some (mR l1), some (mI l2), some (mI l3), some (mR l4), some (mI l5), some (mI l6), some (mR l7), some (mR l8), some (mI l9), some (mI l10), some (mI l11), some (mR l12), some (mR l13), some (mI l14), some (mI ((0 : Int))), some (mI ((0 : Int))), some (mI ((0 : Int))), none, none, none, none, none]) dL_law_841 (by decide) rfl ?_
    exact K
theorem B_YL_law_598 {kb wb : Nat} {σ : mx_S} {Q : mx_R → Prop} {l0 : Nat} {l1 : Nat} {l2 : Int} {l3 : Int} {l4 : Nat} {l5 : Int} {l6 : Int} {l7 : Nat} {l8 : Nat} {l9 : Int} {l10 : Int} {l11 : Int} {l12 : Nat} {l13 : Int} {l14 : Int} {s0 : Int} {s1 : Int} (K : (¬ l14 = (36 : Int) → mx_J YL_law kb wb 621 [some (mR l0), some (mR l1), some (mI l2), some (mI l3), some (mR l4), some (mI l5), some (mI l6), some (mR l7), some (mR l8), some (mI l9), some (mI (mx_w (s1 + s0))), some (mI l14), some (mR l12), some (mI l13), some (mI l14), none, none, none, none, none, none, none, none] [mI (mx_w (l14 - (97 : Int)))] σ Q) ∧ (¬ (¬ l14 = (36 : Int)) → mx_J YL_law kb wb 621 [some (mR l0), some (mR l1), some (mI l2), some (mI l3), some (mR l4), some (mI l5), some (mI l6), some (mR l7), some (mR l8), some (mI l9), some (mI (mx_w (s1 + s0))), some (mI l14), some (mR l12), some (mI l13), some (mI l14), none, none, none, none, none, none, none, none] [mI ((3 : Int))] σ Q)) : mx_J YL_law kb wb 598 [some (mR l0), some (mR l1), some (mI l2), some (mI l3), some (mR l4), some (mI l5), some (mI l6), some (mR l7), some (mR l8), some (mI l9), some (mI l10), some (mI l11), some (mR l12), some (mI l13), some (mI l14), none, none, none, none, none, none, none, none] [mI s0, mI s1] σ Q := by
  refine mj_iadd dL_law_598 ?_
  refine mj_istore (k := 10) (ls' := [some (mR l0), some (mR l1), some (mI l2), some (mI l3), some (mR l4), some (mI l5), some (mI l6), some (mR l7), some (mR l8), some (mI l9), some (mI (mx_w (s1 + s0))), some (mI l11), some (mR l12), some (mI l13), some (mI l14), none, none, none, none, none, none, none, none]) dL_law_599 (by decide) rfl ?_
  refine mj_iload (k := 14) dL_law_601 rfl ?_
  refine mj_istore (k := 11) (ls' := [some (mR l0), some (mR l1), some (mI l2), some (mI l3), some (mR l4), some (mI l5), some (mI l6), some (mR l7), some (mR l8), some (mI l9), some (mI (mx_w (s1 + s0))), some (mI l14), some (mR l12), some (mI l13), some (mI l14), none, none, none, none, none, none, none, none]) dL_law_603 (by decide) rfl ?_
  refine mj_iload (k := 14) dL_law_605 rfl ?_
  refine mj_bipush (n := 36) dL_law_607 ⟨by decide, by decide⟩ (by decide) ?_
  refine mj_icmp_ne (tgt := 616) dL_law_609 (by decide) ⟨fun h => ?_, fun h => ?_⟩
  · replace K := K.1 h
    refine mj_iload (k := 14) dL_law_616 rfl ?_
    refine mj_bipush (n := 97) dL_law_618 ⟨by decide, by decide⟩ (by decide) ?_
    refine mj_isub dL_law_620 ?_
    exact K
  · replace K := K.2 h
    refine mj_iconst dL_law_612 ⟨by decide, by decide⟩ ?_
    refine mj_goto (tgt := 621) dL_law_613 (by decide) ?_
    exact K
theorem B_YL_law_502 {kb wb : Nat} {σ : mx_S} {Q : mx_R → Prop} {l0 : Nat} {l1 : Nat} {l2 : Int} {l3 : Int} {l4 : Nat} {l5 : Int} {l6 : Int} {l7 : Nat} {l8 : Nat} {l9 : Int} {l10 : Int} {l11 : Int} {l12 : Int} {l13 : Int} (K : ∃ (n1 : Nat) (f : Nat → mx_V), sH σ (l7) = some (.inr (0, n1, f)) ∧ sB σ ≤ l7 ∧ 0 ≤ l12 ∧ l12 < (n1 : Int) ∧ ∀ σ2, σ2 = mx_wr σ (l7) (.inr (0, n1, upV f (l12).toNat (mI l10))) → ∃ (n3 : Nat) (f : Nat → mx_V), sH σ2 (l8) = some (.inr (0, n3, f)) ∧ sB σ2 ≤ l8 ∧ 0 ≤ l12 ∧ l12 < (n3 : Int) ∧ ∀ σ4, σ4 = mx_wr σ2 (l8) (.inr (0, n3, upV f (l12).toNat (mI l11))) → mx_J YL_law kb wb 271 [some (mR l0), some (mR l1), some (mI l2), some (mI l3), some (mR l4), some (mI l5), some (mI l6), some (mR l7), some (mR l8), some (mI (mx_w (l9 + (1 : Int)))), some (mI l10), some (mI (mx_w (l11 + (1 : Int)))), none, none, none, none, none, none, none, none, none, none, none] [] σ4 Q) : mx_J YL_law kb wb 502 [some (mR l0), some (mR l1), some (mI l2), some (mI l3), some (mR l4), some (mI l5), some (mI l6), some (mR l7), some (mR l8), some (mI l9), some (mI l10), some (mI l11), some (mI l12), some (mI l13), none, none, none, none, none, none, none, none, none] [] σ Q := by
  refine mj_aload (k := 7) dL_law_502 rfl ?_
  refine mj_iload (k := 12) dL_law_504 rfl ?_
  refine mj_iload (k := 10) dL_law_506 rfl ?_
  obtain ⟨n1, fn1, hfn1, hbn1, h0n1, h1n1, K⟩ := K
  replace K := K _ rfl
  refine mj_iast dL_law_508 hfn1 hbn1 h0n1 h1n1 ?_
  generalize mx_wr σ (l7) (.inr (0, n1, upV fn1 (l12).toNat (mI l10))) = σ2 at K ⊢
  refine mj_aload (k := 8) dL_law_509 rfl ?_
  refine mj_iload (k := 12) dL_law_511 rfl ?_
  refine mj_iload (k := 11) dL_law_513 rfl ?_
  obtain ⟨n3, fn3, hfn3, hbn3, h0n3, h1n3, K⟩ := K
  replace K := K _ rfl
  refine mj_iast dL_law_515 hfn3 hbn3 h0n3 h1n3 ?_
  generalize mx_wr σ2 (l8) (.inr (0, n3, upV fn3 (l12).toNat (mI l11))) = σ4 at K ⊢
  refine mj_iinc (k := 9) (ls' := [some (mR l0), some (mR l1), some (mI l2), some (mI l3), some (mR l4), some (mI l5), some (mI l6), some (mR l7), some (mR l8), some (mI (mx_w (l9 + (1 : Int)))), some (mI l10), some (mI l11), some (mI l12), some (mI l13), none, none, none, none, none, none, none, none, none]) dL_law_516 rfl (by decide) rfl ?_
  refine mj_iinc (k := 11) (ls' := [some (mR l0), some (mR l1), some (mI l2), some (mI l3), some (mR l4), some (mI l5), some (mI l6), some (mR l7), some (mR l8), some (mI (mx_w (l9 + (1 : Int)))), some (mI l10), some (mI (mx_w (l11 + (1 : Int)))), some (mI l12), some (mI l13), none, none, none, none, none, none, none, none, none]) dL_law_519 rfl (by decide) rfl ?_
  refine mj_goto (tgt := 271) dL_law_522 (by decide) ?_
  exact mj_forget (ls' := [some (mR l0), some (mR l1), some (mI l2), some (mI l3), some (mR l4), some (mI l5), some (mI l6), some (mR l7), some (mR l8), some (mI (mx_w (l9 + (1 : Int)))), some (mI l10), some (mI (mx_w (l11 + (1 : Int)))), none, none, none, none, none, none, none, none, none, none, none]) ⟨rfl, ⟨rfl, ⟨rfl, ⟨rfl, ⟨rfl, ⟨rfl, ⟨rfl, ⟨rfl, ⟨rfl, ⟨rfl, ⟨rfl, ⟨rfl, trivial⟩⟩⟩⟩⟩⟩⟩⟩⟩⟩⟩⟩ K
theorem B_YL_law_323 {kb wb : Nat} {σ : mx_S} {Q : mx_R → Prop} {l0 : Nat} {l1 : Nat} {l2 : Int} {l3 : Int} {l4 : Nat} {l5 : Int} {l6 : Int} {l7 : Nat} {l8 : Nat} {l9 : Int} {l10 : Int} {l11 : Int} {l12 : Int} {l13 : Int} {l14 : Nat} {l15 : Int} {l16 : Int} (K : ∃ (kd n1 : Nat) (f : Nat → mx_V), sH σ (l4) = some (.inr (kd, n1, f)) ∧ 2 ≤ kd ∧ 0 ≤ l10 ∧ l10 < (n1 : Int) ∧ ∃ x2, f (l10).toNat = mR x2 ∧ ∃ (kd n3 : Nat) (f : Nat → mx_V), sH σ (x2) = some (.inr (kd, n3, f)) ∧ ((n3 : Int) ≤ mx_w (l11 + l16) → mx_J YL_law kb wb 376 [some (mR l0), some (mR l1), some (mI l2), some (mI l3), some (mR l4), some (mI l5), some (mI l6), some (mR l7), some (mR l8), some (mI l9), some (mI l10), some (mI l11), some (mI l12), some (mI l13), some (mR l14), some (mI l15), some (mI l16), none, none, none, none, none, none] [] σ Q) ∧ (¬ ((n3 : Int) ≤ mx_w (l11 + l16)) → ∃ (kd n4 : Nat) (f : Nat → mx_V), sH σ (l14) = some (.inr (kd, n4, f)) ∧ ((n4 : Int) ≤ mx_w (l15 + l16) → mx_J YL_law kb wb 376 [some (mR l0), some (mR l1), some (mI l2), some (mI l3), some (mR l4), some (mI l5), some (mI l6), some (mR l7), some (mR l8), some (mI l9), some (mI l10), some (mI l11), some (mI l12), some (mI l13), some (mR l14), some (mI l15), some (mI l16), none, none, none, none, none, none] [] σ Q) ∧ (¬ ((n4 : Int) ≤ mx_w (l15 + l16)) → ∃ (kd n5 : Nat) (f : Nat → mx_V), sH σ (l4) = some (.inr (kd, n5, f)) ∧ 2 ≤ kd ∧ 0 ≤ l10 ∧ l10 < (n5 : Int) ∧ ∃ x6, f (l10).toNat = mR x6 ∧ ∃ (n7 : Nat) (f : Nat → mx_V), sH σ (x6) = some (.inr (1, n7, f)) ∧ 0 ≤ mx_w (l11 + l16) ∧ mx_w (l11 + l16) < (n7 : Int) ∧ ∃ x8, f (mx_w (l11 + l16)).toNat = mI x8 ∧ ∃ (n9 : Nat) (f : Nat → mx_V), sH σ (l14) = some (.inr (1, n9, f)) ∧ 0 ≤ mx_w (l15 + l16) ∧ mx_w (l15 + l16) < (n9 : Int) ∧ ∃ x10, f (mx_w (l15 + l16)).toNat = mI x10 ∧ (¬ x8 = x10 → mx_J YL_law kb wb 376 [some (mR l0), some (mR l1), some (mI l2), some (mI l3), some (mR l4), some (mI l5), some (mI l6), some (mR l7), some (mR l8), some (mI l9), some (mI l10), some (mI l11), some (mI l12), some (mI l13), some (mR l14), some (mI l15), some (mI l16), none, none, none, none, none, none] [] σ Q) ∧ (¬ (¬ x8 = x10) → mx_J YL_law kb wb 323 [some (mR l0), some (mR l1), some (mI l2), some (mI l3), some (mR l4), some (mI l5), some (mI l6), some (mR l7), some (mR l8), some (mI l9), some (mI l10), some (mI l11), some (mI l12), some (mI l13), some (mR l14), some (mI l15), some (mI (mx_w (l16 + (1 : Int)))), none, none, none, none, none, none] [] σ Q)))) : mx_J YL_law kb wb 323 [some (mR l0), some (mR l1), some (mI l2), some (mI l3), some (mR l4), some (mI l5), some (mI l6), some (mR l7), some (mR l8), some (mI l9), some (mI l10), some (mI l11), some (mI l12), some (mI l13), some (mR l14), some (mI l15), some (mI l16), none, none, none, none, none, none] [] σ Q := by
  refine mj_iload (k := 11) dL_law_323 rfl ?_
  refine mj_iload (k := 16) dL_law_325 rfl ?_
  refine mj_iadd dL_law_327 ?_
  refine mj_aload (k := 4) dL_law_328 rfl ?_
  refine mj_iload (k := 10) dL_law_330 rfl ?_
  obtain ⟨kd, n1, fn1, hfn1, hrn1, h0n1, h1n1, x2, hxx2, K⟩ := K
  refine mj_aald dL_law_332 hfn1 hrn1 h0n1 h1n1 ?_
  rw [hxx2]
  obtain ⟨kd, n3, fn3, hfn3, K⟩ := K
  refine mj_alen dL_law_333 hfn3 ?_
  refine mj_icmp_ge (tgt := 376) dL_law_334 (by decide) ⟨fun h => ?_, fun h => ?_⟩
  · replace K := K.1 h
    exact K
  · replace K := K.2 h
    refine mj_iload (k := 15) dL_law_337 rfl ?_
    refine mj_iload (k := 16) dL_law_339 rfl ?_
    refine mj_iadd dL_law_341 ?_
    refine mj_aload (k := 14) dL_law_342 rfl ?_
    obtain ⟨kd, n4, fn4, hfn4, K⟩ := K
    refine mj_alen dL_law_344 hfn4 ?_
    refine mj_icmp_ge (tgt := 376) dL_law_345 (by decide) ⟨fun h => ?_, fun h => ?_⟩
    · replace K := K.1 h
      exact K
    · replace K := K.2 h
      refine mj_aload (k := 4) dL_law_348 rfl ?_
      refine mj_iload (k := 10) dL_law_350 rfl ?_
      obtain ⟨kd, n5, fn5, hfn5, hrn5, h0n5, h1n5, x6, hxx6, K⟩ := K
      refine mj_aald dL_law_352 hfn5 hrn5 h0n5 h1n5 ?_
      rw [hxx6]
      refine mj_iload (k := 11) dL_law_353 rfl ?_
      refine mj_iload (k := 16) dL_law_355 rfl ?_
      refine mj_iadd dL_law_357 ?_
      obtain ⟨n7, fn7, hfn7, h0n7, h1n7, x8, hxx8, K⟩ := K
      refine mj_cald dL_law_358 hfn7 h0n7 h1n7 ?_
      rw [hxx8]
      refine mj_aload (k := 14) dL_law_359 rfl ?_
      refine mj_iload (k := 15) dL_law_361 rfl ?_
      refine mj_iload (k := 16) dL_law_363 rfl ?_
      refine mj_iadd dL_law_365 ?_
      obtain ⟨n9, fn9, hfn9, h0n9, h1n9, x10, hxx10, K⟩ := K
      refine mj_cald dL_law_366 hfn9 h0n9 h1n9 ?_
      rw [hxx10]
      refine mj_icmp_ne (tgt := 376) dL_law_367 (by decide) ⟨fun h => ?_, fun h => ?_⟩
      · replace K := K.1 h
        exact K
      · replace K := K.2 h
        refine mj_iinc (k := 16) (ls' := [some (mR l0), some (mR l1), some (mI l2), some (mI l3), some (mR l4), some (mI l5), some (mI l6), some (mR l7), some (mR l8), some (mI l9), some (mI l10), some (mI l11), some (mI l12), some (mI l13), some (mR l14), some (mI l15), some (mI (mx_w (l16 + (1 : Int)))), none, none, none, none, none, none]) dL_law_370 rfl (by decide) rfl ?_
        refine mj_goto (tgt := 323) dL_law_373 (by decide) ?_
        exact K
theorem B_YL_law_1014 {kb wb : Nat} {σ : mx_S} {Q : mx_R → Prop} {l0 : Nat} {l1 : Nat} {l2 : Int} {l3 : Int} {l4 : Nat} {l5 : Int} {l6 : Int} {l7 : Nat} {l8 : Nat} {l9 : Int} {l10 : Int} {l11 : Int} {l12 : Nat} {l13 : Nat} {l14 : Int} {l15 : Int} (K : (l3 ≤ l15 → (l2 = (0 : Int) → Q (.inl (some (mI ((0 : Int))), σ))) ∧ (¬ (l2 = (0 : Int)) → ∃ (r1 : Int) (σ2 : mx_S), mx_MSN YL_count [mR l1, mI l6] σ (some (mI r1)) σ2 ∧ sK σ2 ≤ kb ∧ sW σ2 ≤ wb ∧ ∀ (n4 : Nat) (σ3 : mx_S), sN σ2 ≤ n4 → σ3 = mx_at_n σ2 n4 → (¬ r1 = l14 → Q (.inl (some (mI ((0 : Int))), σ3))) ∧ (¬ (¬ r1 = l14) → ∃ (r5 : Int) (σ6 : mx_S), mx_MSN YL_found [mR l1, mI l6, mI l14, mI ((1 : Int))] σ3 (some (mI r5)) σ6 ∧ sK σ6 ≤ kb ∧ sW σ6 ≤ wb ∧ ∀ (n8 : Nat) (σ7 : mx_S), sN σ6 ≤ n8 → σ7 = mx_at_n σ6 n8 → (¬ r5 = (-900003 : Int) → Q (.inl (some (mI ((0 : Int))), σ7))) ∧ (¬ (¬ r5 = (-900003 : Int)) → ∃ (kd n9 : Nat) (f : Nat → mx_V), sH σ7 (l13) = some (.inr (kd, n9, f)) ∧ ∃ (r10 : Int) (σ11 : mx_S), mx_MSN YL_interval [mR l1, mI l6, mI (mx_w ((n9 : Int) + (1 : Int))), mI ((1 : Int))] σ7 (some (mI r10)) σ11 ∧ sK σ11 ≤ kb ∧ sW σ11 ≤ wb ∧ ∀ (n13 : Nat) (σ12 : mx_S), sN σ11 ≤ n13 → σ12 = mx_at_n σ11 n13 → (¬ r10 = (-900003 : Int) → Q (.inl (some (mI ((0 : Int))), σ12))) ∧ (¬ (¬ r10 = (-900003 : Int)) → ∃ (kd n14 : Nat) (f : Nat → mx_V), sH σ12 (l13) = some (.inr (kd, n14, f)) ∧ ∃ (r15 : Int) (σ16 : mx_S), mx_MSN YL_interval [mR l1, mI l6, mI ((n14 : Int)), mI ((1 : Int))] σ12 (some (mI r15)) σ16 ∧ sK σ16 ≤ kb ∧ sW σ16 ≤ wb ∧ ∀ (n18 : Nat) (σ17 : mx_S), sN σ16 ≤ n18 → σ17 = mx_at_n σ16 n18 → ∃ (kd n19 : Nat) (f : Nat → mx_V), sH σ17 (l13) = some (.inr (kd, n19, f)) ∧ ∃ (r20 : Int) (σ21 : mx_S), mx_MSN YL_interval [mR l1, mI l6, mI ((n19 : Int)), mI ((0 : Int))] σ17 (some (mI r20)) σ21 ∧ sK σ21 ≤ kb ∧ sW σ21 ≤ wb ∧ ∀ (n23 : Nat) (σ22 : mx_S), sN σ21 ≤ n23 → σ22 = mx_at_n σ21 n23 → (¬ mx_w (r15 - r20) = l14 → Q (.inl (some (mI ((0 : Int))), σ22))) ∧ (¬ (¬ mx_w (r15 - r20) = l14) → ∃ (fs : List mx_V), sH σ22 (l1) = some (.inl (10, fs)) ∧ ∃ (r25 : Int) (σ24 : mx_S), mx_MS Y10_isSound [mR l1] σ22 (.inl (some (mI r25), σ24)) ∧ sK σ24 ≤ kb ∧ sW σ24 ≤ wb ∧ (r25 = (0 : Int) → Q (.inl (some (mI ((0 : Int))), σ24))) ∧ (¬ (r25 = (0 : Int)) → Q (.inl (some (mI ((1 : Int))), σ24))))))))) ∧ (¬ (l3 ≤ l15) → mx_J YL_law kb wb 1023 [some (mR l0), some (mR l1), some (mI l2), some (mI l3), some (mR l4), some (mI l5), some (mI l6), some (mR l7), some (mR l8), some (mI l9), some (mI l10), some (mI l11), some (mR l12), some (mR l13), some (mI l14), some (mI l15), some (mI ((0 : Int))), none, none, none, none, none, none] [] σ Q)) : mx_J YL_law kb wb 1014 [some (mR l0), some (mR l1), some (mI l2), some (mI l3), some (mR l4), some (mI l5), some (mI l6), some (mR l7), some (mR l8), some (mI l9), some (mI l10), some (mI l11), some (mR l12), some (mR l13), some (mI l14), some (mI l15), none, none, none, none, none, none, none] [] σ Q := by
  refine mj_iload (k := 15) dL_law_1014 rfl ?_
  refine mj_iload_n (k := 3) dL_law_1016 rfl rfl ?_
  refine mj_icmp_ge (tgt := 1116) dL_law_1017 (by decide) ⟨fun h => ?_, fun h => ?_⟩
  · replace K := K.1 h
    refine mj_iload_n (k := 2) dL_law_1116 rfl rfl ?_
    refine mj_if_eq (tgt := 1199) dL_law_1117 (by decide) ⟨fun h => ?_, fun h => ?_⟩
    · replace K := K.1 h
      refine mj_iconst dL_law_1199 ⟨by decide, by decide⟩ ?_
      exact mj_ret (v := some (mI ((0 : Int)))) ⟨dL_law_1200, .boolean, rfl, by decide⟩ K
    · replace K := K.2 h
      refine mj_aload_n (k := 1) dL_law_1120 rfl rfl ?_
      refine mj_iload (k := 6) dL_law_1121 rfl ?_
      obtain ⟨r1, σ2, hMσ2, hkσ2, hwσ2, K⟩ := K
      refine mj_callSWN (As := [mR l1, mI l6]) (rest := []) dL_law_1123 k_YL_law_138 rfl (Nat.le_of_ble_eq_true rfl) hMσ2 hkσ2 hwσ2 (fun n4 hnn4 => ?_)
      replace K := K n4 _ hnn4 rfl
      generalize mx_at_n σ2 n4 = σ3 at K ⊢
      refine mj_iload (k := 14) dL_law_1126 rfl ?_
      refine mj_icmp_ne (tgt := 1199) dL_law_1128 (by decide) ⟨fun h => ?_, fun h => ?_⟩
      · replace K := K.1 h
        refine mj_iconst dL_law_1199 ⟨by decide, by decide⟩ ?_
        exact mj_ret (v := some (mI ((0 : Int)))) ⟨dL_law_1200, .boolean, rfl, by decide⟩ K
      · replace K := K.2 h
        refine mj_aload_n (k := 1) dL_law_1131 rfl rfl ?_
        refine mj_iload (k := 6) dL_law_1132 rfl ?_
        refine mj_iload (k := 14) dL_law_1134 rfl ?_
        refine mj_iconst dL_law_1136 ⟨by decide, by decide⟩ ?_
        obtain ⟨r5, σ6, hMσ6, hkσ6, hwσ6, K⟩ := K
        refine mj_callSWN (As := [mR l1, mI l6, mI l14, mI ((1 : Int))]) (rest := []) dL_law_1137 k_YL_law_136 rfl (Nat.le_of_ble_eq_true rfl) hMσ6 hkσ6 hwσ6 (fun n8 hnn8 => ?_)
        replace K := K n8 _ hnn8 rfl
        generalize mx_at_n σ6 n8 = σ7 at K ⊢
        refine mj_ldc (n := (-900003 : Int)) dL_law_1140 ⟨by decide, by decide⟩ w_675 ?_
        refine mj_icmp_ne (tgt := 1199) dL_law_1142 (by decide) ⟨fun h => ?_, fun h => ?_⟩
        · replace K := K.1 h
          refine mj_iconst dL_law_1199 ⟨by decide, by decide⟩ ?_
          exact mj_ret (v := some (mI ((0 : Int)))) ⟨dL_law_1200, .boolean, rfl, by decide⟩ K
        · replace K := K.2 h
          refine mj_aload_n (k := 1) dL_law_1145 rfl rfl ?_
          refine mj_iload (k := 6) dL_law_1146 rfl ?_
          refine mj_aload (k := 13) dL_law_1148 rfl ?_
          obtain ⟨kd, n9, fn9, hfn9, K⟩ := K
          refine mj_alen dL_law_1150 hfn9 ?_
          refine mj_iconst dL_law_1151 ⟨by decide, by decide⟩ ?_
          refine mj_iadd dL_law_1152 ?_
          refine mj_iconst dL_law_1153 ⟨by decide, by decide⟩ ?_
          obtain ⟨r10, σ11, hMσ11, hkσ11, hwσ11, K⟩ := K
          refine mj_callSWN (As := [mR l1, mI l6, mI (mx_w ((n9 : Int) + (1 : Int))), mI ((1 : Int))]) (rest := []) dL_law_1154 k_YL_law_129 rfl (Nat.le_of_ble_eq_true rfl) hMσ11 hkσ11 hwσ11 (fun n13 hnn13 => ?_)
          replace K := K n13 _ hnn13 rfl
          generalize mx_at_n σ11 n13 = σ12 at K ⊢
          refine mj_ldc (n := (-900003 : Int)) dL_law_1157 ⟨by decide, by decide⟩ w_675 ?_
          refine mj_icmp_ne (tgt := 1199) dL_law_1159 (by decide) ⟨fun h => ?_, fun h => ?_⟩
          · replace K := K.1 h
            refine mj_iconst dL_law_1199 ⟨by decide, by decide⟩ ?_
            exact mj_ret (v := some (mI ((0 : Int)))) ⟨dL_law_1200, .boolean, rfl, by decide⟩ K
          · replace K := K.2 h
            refine mj_aload_n (k := 1) dL_law_1162 rfl rfl ?_
            refine mj_iload (k := 6) dL_law_1163 rfl ?_
            refine mj_aload (k := 13) dL_law_1165 rfl ?_
            obtain ⟨kd, n14, fn14, hfn14, K⟩ := K
            refine mj_alen dL_law_1167 hfn14 ?_
            refine mj_iconst dL_law_1168 ⟨by decide, by decide⟩ ?_
            obtain ⟨r15, σ16, hMσ16, hkσ16, hwσ16, K⟩ := K
            refine mj_callSWN (As := [mR l1, mI l6, mI ((n14 : Int)), mI ((1 : Int))]) (rest := []) dL_law_1169 k_YL_law_129 rfl (Nat.le_of_ble_eq_true rfl) hMσ16 hkσ16 hwσ16 (fun n18 hnn18 => ?_)
            replace K := K n18 _ hnn18 rfl
            generalize mx_at_n σ16 n18 = σ17 at K ⊢
            refine mj_aload_n (k := 1) dL_law_1172 rfl rfl ?_
            refine mj_iload (k := 6) dL_law_1173 rfl ?_
            refine mj_aload (k := 13) dL_law_1175 rfl ?_
            obtain ⟨kd, n19, fn19, hfn19, K⟩ := K
            refine mj_alen dL_law_1177 hfn19 ?_
            refine mj_iconst dL_law_1178 ⟨by decide, by decide⟩ ?_
            obtain ⟨r20, σ21, hMσ21, hkσ21, hwσ21, K⟩ := K
            refine mj_callSWN (As := [mR l1, mI l6, mI ((n19 : Int)), mI ((0 : Int))]) (rest := [mI r15]) dL_law_1179 k_YL_law_129 rfl (Nat.le_of_ble_eq_true rfl) hMσ21 hkσ21 hwσ21 (fun n23 hnn23 => ?_)
            replace K := K n23 _ hnn23 rfl
            generalize mx_at_n σ21 n23 = σ22 at K ⊢
            refine mj_isub dL_law_1182 ?_
            refine mj_iload (k := 14) dL_law_1183 rfl ?_
            refine mj_icmp_ne (tgt := 1199) dL_law_1185 (by decide) ⟨fun h => ?_, fun h => ?_⟩
            · replace K := K.1 h
              refine mj_iconst dL_law_1199 ⟨by decide, by decide⟩ ?_
              exact mj_ret (v := some (mI ((0 : Int)))) ⟨dL_law_1200, .boolean, rfl, by decide⟩ K
            · replace K := K.2 h
              refine mj_aload_n (k := 1) dL_law_1188 rfl rfl ?_
              obtain ⟨fs26, hbfs26, K⟩ := K
              obtain ⟨r25, σ24, hMσ24, hkσ24, hwσ24, K⟩ := K
              refine mj_callV (As := []) (rest := []) (b := l1) dL_law_1189 k_YL_law_140 rfl hbfs26 rfl (Nat.le_of_ble_eq_true rfl) hMσ24 hkσ24 hwσ24 ?_
              refine mj_if_eq (tgt := 1199) dL_law_1192 (by decide) ⟨fun h => ?_, fun h => ?_⟩
              · replace K := K.1 h
                refine mj_iconst dL_law_1199 ⟨by decide, by decide⟩ ?_
                exact mj_ret (v := some (mI ((0 : Int)))) ⟨dL_law_1200, .boolean, rfl, by decide⟩ K
              · replace K := K.2 h
                refine mj_iconst dL_law_1195 ⟨by decide, by decide⟩ ?_
                refine mj_goto (tgt := 1200) dL_law_1196 (by decide) ?_
                exact mj_ret (v := some (mI ((1 : Int)))) ⟨dL_law_1200, .boolean, rfl, by decide⟩ K
  · replace K := K.2 h
    refine mj_iconst dL_law_1020 ⟨by decide, by decide⟩ ?_
    refine mj_istore (k := 16) (ls' := [some (mR l0), some (mR l1), some (mI l2), some (mI l3), some (mR l4), some (mI l5), some (mI l6), some (mR l7), some (mR l8), some (mI l9), some (mI l10), some (mI l11), some (mR l12), some (mR l13), some (mI l14), some (mI l15), some (mI ((0 : Int))), none, none, none, none, none, none]) dL_law_1021 (by decide) rfl ?_
    exact K
theorem B_YL_law_843 {kb wb : Nat} {σ : mx_S} {Q : mx_R → Prop} {l0 : Nat} {l1 : Nat} {l2 : Int} {l3 : Int} {l4 : Nat} {l5 : Int} {l6 : Int} {l7 : Nat} {l8 : Nat} {l9 : Int} {l10 : Int} {l11 : Int} {l12 : Nat} {l13 : Nat} {l14 : Int} {l15 : Int} {l16 : Int} {l17 : Int} (K : (l5 ≤ l17 → ∃ (r1 : Int) (σ2 : mx_S), mx_MSN YL_interval [mR l1, mI l6, mI l14, mI ((0 : Int))] σ (some (mI r1)) σ2 ∧ sK σ2 ≤ kb ∧ sW σ2 ≤ wb ∧ ∀ (n4 : Nat) (σ3 : mx_S), sN σ2 ≤ n4 → σ3 = mx_at_n σ2 n4 → (¬ r1 = l15 → mx_J YL_law kb wb 999 [some (mR l0), some (mR l1), some (mI l2), some (mI l3), some (mR l4), some (mI l5), some (mI l6), some (mR l7), some (mR l8), some (mI l9), some (mI l10), some (mI l11), some (mR l12), some (mR l13), some (mI l14), some (mI l15), some (mI l16), some (mI l17), none, none, none, none, none] [mI l2] σ3 Q) ∧ (¬ (¬ r1 = l15) → ∃ (r5 : Int) (σ6 : mx_S), mx_MSN YL_interval [mR l1, mI l6, mI l14, mI ((1 : Int))] σ3 (some (mI r5)) σ6 ∧ sK σ6 ≤ kb ∧ sW σ6 ≤ wb ∧ ∀ (n8 : Nat) (σ7 : mx_S), sN σ6 ≤ n8 → σ7 = mx_at_n σ6 n8 → (¬ r5 = l16 → mx_J YL_law kb wb 999 [some (mR l0), some (mR l1), some (mI l2), some (mI l3), some (mR l4), some (mI l5), some (mI l6), some (mR l7), some (mR l8), some (mI l9), some (mI l10), some (mI l11), some (mR l12), some (mR l13), some (mI l14), some (mI l15), some (mI l16), some (mI l17), none, none, none, none, none] [mI l2] σ7 Q) ∧ (¬ (¬ r5 = l16) → mx_J YL_law kb wb 1000 [some (mR l0), some (mR l1), some (mI l2), some (mI l3), some (mR l4), some (mI l5), some (mI l6), some (mR l7), some (mR l8), some (mI l9), some (mI l10), some (mI l11), some (mR l12), some (mR l13), some (mI l14), some (mI l15), some (mI l16), some (mI l17), none, none, none, none, none] [mI ((1 : Int)), mI l2] σ7 Q))) ∧ (¬ (l5 ≤ l17) → ∃ (n9 : Nat) (f : Nat → mx_V), sH σ (l7) = some (.inr (0, n9, f)) ∧ 0 ≤ l17 ∧ l17 < (n9 : Int) ∧ ∃ x10, f (l17).toNat = mI x10 ∧ ∃ (kd n11 : Nat) (f : Nat → mx_V), sH σ (l4) = some (.inr (kd, n11, f)) ∧ 2 ≤ kd ∧ 0 ≤ x10 ∧ x10 < (n11 : Int) ∧ ∃ x12, f (x10).toNat = mR x12 ∧ mx_J YL_law kb wb 866 [some (mR l0), some (mR l1), some (mI l2), some (mI l3), some (mR l4), some (mI l5), some (mI l6), some (mR l7), some (mR l8), some (mI l9), some (mI l10), some (mI l11), some (mR l12), some (mR l13), some (mI l14), some (mI l15), some (mI l16), some (mI l17), some (mR x12), some (mI ((0 : Int))), some (mI ((0 : Int))), none, none] [] σ Q)) : mx_J YL_law kb wb 843 [some (mR l0), some (mR l1), some (mI l2), some (mI l3), some (mR l4), some (mI l5), some (mI l6), some (mR l7), some (mR l8), some (mI l9), some (mI l10), some (mI l11), some (mR l12), some (mR l13), some (mI l14), some (mI l15), some (mI l16), some (mI l17), none, none, none, none, none] [] σ Q := by
  refine mj_iload (k := 17) dL_law_843 rfl ?_
  refine mj_iload (k := 5) dL_law_845 rfl ?_
  refine mj_icmp_ge (tgt := 966) dL_law_847 (by decide) ⟨fun h => ?_, fun h => ?_⟩
  · replace K := K.1 h
    refine mj_iload_n (k := 2) dL_law_966 rfl rfl ?_
    refine mj_aload_n (k := 1) dL_law_967 rfl rfl ?_
    refine mj_iload (k := 6) dL_law_968 rfl ?_
    refine mj_iload (k := 14) dL_law_970 rfl ?_
    refine mj_iconst dL_law_972 ⟨by decide, by decide⟩ ?_
    obtain ⟨r1, σ2, hMσ2, hkσ2, hwσ2, K⟩ := K
    refine mj_callSWN (As := [mR l1, mI l6, mI l14, mI ((0 : Int))]) (rest := [mI l2]) dL_law_973 k_YL_law_129 rfl (Nat.le_of_ble_eq_true rfl) hMσ2 hkσ2 hwσ2 (fun n4 hnn4 => ?_)
    replace K := K n4 _ hnn4 rfl
    generalize mx_at_n σ2 n4 = σ3 at K ⊢
    refine mj_iload (k := 15) dL_law_976 rfl ?_
    refine mj_icmp_ne (tgt := 999) dL_law_978 (by decide) ⟨fun h => ?_, fun h => ?_⟩
    · replace K := K.1 h
      exact K
    · replace K := K.2 h
      refine mj_aload_n (k := 1) dL_law_981 rfl rfl ?_
      refine mj_iload (k := 6) dL_law_982 rfl ?_
      refine mj_iload (k := 14) dL_law_984 rfl ?_
      refine mj_iconst dL_law_986 ⟨by decide, by decide⟩ ?_
      obtain ⟨r5, σ6, hMσ6, hkσ6, hwσ6, K⟩ := K
      refine mj_callSWN (As := [mR l1, mI l6, mI l14, mI ((1 : Int))]) (rest := [mI l2]) dL_law_987 k_YL_law_129 rfl (Nat.le_of_ble_eq_true rfl) hMσ6 hkσ6 hwσ6 (fun n8 hnn8 => ?_)
      replace K := K n8 _ hnn8 rfl
      generalize mx_at_n σ6 n8 = σ7 at K ⊢
      refine mj_iload (k := 16) dL_law_990 rfl ?_
      refine mj_icmp_ne (tgt := 999) dL_law_992 (by decide) ⟨fun h => ?_, fun h => ?_⟩
      · replace K := K.1 h
        exact K
      · replace K := K.2 h
        refine mj_iconst dL_law_995 ⟨by decide, by decide⟩ ?_
        refine mj_goto (tgt := 1000) dL_law_996 (by decide) ?_
        exact K
  · replace K := K.2 h
    refine mj_aload (k := 4) dL_law_850 rfl ?_
    refine mj_aload (k := 7) dL_law_852 rfl ?_
    refine mj_iload (k := 17) dL_law_854 rfl ?_
    obtain ⟨n9, fn9, hfn9, h0n9, h1n9, x10, hxx10, K⟩ := K
    refine mj_iald dL_law_856 hfn9 h0n9 h1n9 ?_
    rw [hxx10]
    obtain ⟨kd, n11, fn11, hfn11, hrn11, h0n11, h1n11, x12, hxx12, K⟩ := K
    refine mj_aald dL_law_857 hfn11 hrn11 h0n11 h1n11 ?_
    rw [hxx12]
    refine mj_astore (k := 18) (ls' := [some (mR l0), some (mR l1), some (mI l2), some (mI l3), some (mR l4), some (mI l5), some (mI l6), some (mR l7), some (mR l8), some (mI l9), some (mI l10), some (mI l11), some (mR l12), some (mR l13), some (mI l14), some (mI l15), some (mI l16), some (mI l17), some (mR x12), none, none, none, none]) dL_law_858 (by decide) rfl ?_
    refine mj_iconst dL_law_860 ⟨by decide, by decide⟩ ?_
    refine mj_istore (k := 19) (ls' := [some (mR l0), some (mR l1), some (mI l2), some (mI l3), some (mR l4), some (mI l5), some (mI l6), some (mR l7), some (mR l8), some (mI l9), some (mI l10), some (mI l11), some (mR l12), some (mR l13), some (mI l14), some (mI l15), some (mI l16), some (mI l17), some (mR x12), some (mI ((0 : Int))), none, none, none]) dL_law_861 (by decide) rfl ?_
    refine mj_iconst dL_law_863 ⟨by decide, by decide⟩ ?_
    refine mj_istore (k := 20) (ls' := [some (mR l0), some (mR l1), some (mI l2), some (mI l3), some (mR l4), some (mI l5), some (mI l6), some (mR l7), some (mR l8), some (mI l9), some (mI l10), some (mI l11), some (mR l12), some (mR l13), some (mI l14), some (mI l15), some (mI l16), some (mI l17), some (mR x12), some (mI ((0 : Int))), some (mI ((0 : Int))), none, none]) dL_law_864 (by decide) rfl ?_
    exact K
theorem B_YL_law_621 {kb wb : Nat} {σ : mx_S} {Q : mx_R → Prop} {l0 : Nat} {l1 : Nat} {l2 : Int} {l3 : Int} {l4 : Nat} {l5 : Int} {l6 : Int} {l7 : Nat} {l8 : Nat} {l9 : Int} {l10 : Int} {l11 : Int} {l12 : Nat} {l13 : Int} {l14 : Int} {s0 : Int} (K : ∃ (r1 : Int) (σ2 : mx_S), mx_MSN YL_ahead [mR l1, mI l6, mI l14, mI l13] σ (some (mI r1)) σ2 ∧ sK σ2 ≤ kb ∧ sW σ2 ≤ wb ∧ ∀ (n4 : Nat) (σ3 : mx_S), sN σ2 ≤ n4 → σ3 = mx_at_n σ2 n4 → ∃ (n5 : Nat) (f : Nat → mx_V), sH σ3 (l12) = some (.inr (0, n5, f)) ∧ 0 ≤ s0 ∧ s0 < (n5 : Int) ∧ ∃ x6, f (s0).toNat = mI x6 ∧ (¬ r1 = x6 → mx_J YL_law kb wb 659 [some (mR l0), some (mR l1), some (mI l2), some (mI l3), some (mR l4), some (mI l5), some (mI l6), some (mR l7), some (mR l8), some (mI l9), some (mI l10), some (mI l11), some (mR l12), some (mI l13), some (mI l14), some (mI s0), none, none, none, none, none, none, none] [mI l2] σ3 Q) ∧ (¬ (¬ r1 = x6) → ∃ (r7 : Int) (σ8 : mx_S), mx_MSN YL_turned [mR l1, mI l6, mI l13] σ3 (some (mI r7)) σ8 ∧ sK σ8 ≤ kb ∧ sW σ8 ≤ wb ∧ ∀ (n10 : Nat) (σ9 : mx_S), sN σ8 ≤ n10 → σ9 = mx_at_n σ8 n10 → (¬ r7 = l14 → mx_J YL_law kb wb 659 [some (mR l0), some (mR l1), some (mI l2), some (mI l3), some (mR l4), some (mI l5), some (mI l6), some (mR l7), some (mR l8), some (mI l9), some (mI l10), some (mI l11), some (mR l12), some (mI l13), some (mI l14), some (mI s0), none, none, none, none, none, none, none] [mI l2] σ9 Q) ∧ (¬ (¬ r7 = l14) → mx_J YL_law kb wb 660 [some (mR l0), some (mR l1), some (mI l2), some (mI l3), some (mR l4), some (mI l5), some (mI l6), some (mR l7), some (mR l8), some (mI l9), some (mI l10), some (mI l11), some (mR l12), some (mI l13), some (mI l14), some (mI s0), none, none, none, none, none, none, none] [mI ((1 : Int)), mI l2] σ9 Q))) : mx_J YL_law kb wb 621 [some (mR l0), some (mR l1), some (mI l2), some (mI l3), some (mR l4), some (mI l5), some (mI l6), some (mR l7), some (mR l8), some (mI l9), some (mI l10), some (mI l11), some (mR l12), some (mI l13), some (mI l14), none, none, none, none, none, none, none, none] [mI s0] σ Q := by
  refine mj_istore (k := 15) (ls' := [some (mR l0), some (mR l1), some (mI l2), some (mI l3), some (mR l4), some (mI l5), some (mI l6), some (mR l7), some (mR l8), some (mI l9), some (mI l10), some (mI l11), some (mR l12), some (mI l13), some (mI l14), some (mI s0), none, none, none, none, none, none, none]) dL_law_621 (by decide) rfl ?_
  refine mj_iload_n (k := 2) dL_law_623 rfl rfl ?_
  refine mj_aload_n (k := 1) dL_law_624 rfl rfl ?_
  refine mj_iload (k := 6) dL_law_625 rfl ?_
  refine mj_iload (k := 14) dL_law_627 rfl ?_
  refine mj_iload (k := 13) dL_law_629 rfl ?_
  obtain ⟨r1, σ2, hMσ2, hkσ2, hwσ2, K⟩ := K
  refine mj_callSWN (As := [mR l1, mI l6, mI l14, mI l13]) (rest := [mI l2]) dL_law_631 k_YL_law_117 rfl (Nat.le_of_ble_eq_true rfl) hMσ2 hkσ2 hwσ2 (fun n4 hnn4 => ?_)
  replace K := K n4 _ hnn4 rfl
  generalize mx_at_n σ2 n4 = σ3 at K ⊢
  refine mj_aload (k := 12) dL_law_634 rfl ?_
  refine mj_iload (k := 15) dL_law_636 rfl ?_
  obtain ⟨n5, fn5, hfn5, h0n5, h1n5, x6, hxx6, K⟩ := K
  refine mj_iald dL_law_638 hfn5 h0n5 h1n5 ?_
  rw [hxx6]
  refine mj_icmp_ne (tgt := 659) dL_law_639 (by decide) ⟨fun h => ?_, fun h => ?_⟩
  · replace K := K.1 h
    exact K
  · replace K := K.2 h
    refine mj_aload_n (k := 1) dL_law_642 rfl rfl ?_
    refine mj_iload (k := 6) dL_law_643 rfl ?_
    refine mj_iload (k := 13) dL_law_645 rfl ?_
    obtain ⟨r7, σ8, hMσ8, hkσ8, hwσ8, K⟩ := K
    refine mj_callSWN (As := [mR l1, mI l6, mI l13]) (rest := [mI l2]) dL_law_647 k_YL_law_120 rfl (Nat.le_of_ble_eq_true rfl) hMσ8 hkσ8 hwσ8 (fun n10 hnn10 => ?_)
    replace K := K n10 _ hnn10 rfl
    generalize mx_at_n σ8 n10 = σ9 at K ⊢
    refine mj_iload (k := 14) dL_law_650 rfl ?_
    refine mj_icmp_ne (tgt := 659) dL_law_652 (by decide) ⟨fun h => ?_, fun h => ?_⟩
    · replace K := K.1 h
      exact K
    · replace K := K.2 h
      refine mj_iconst dL_law_655 ⟨by decide, by decide⟩ ?_
      refine mj_goto (tgt := 660) dL_law_656 (by decide) ?_
      exact K
theorem B_YL_law_376 {kb wb : Nat} {σ : mx_S} {Q : mx_R → Prop} {l0 : Nat} {l1 : Nat} {l2 : Int} {l3 : Int} {l4 : Nat} {l5 : Int} {l6 : Int} {l7 : Nat} {l8 : Nat} {l9 : Int} {l10 : Int} {l11 : Int} {l12 : Int} {l13 : Int} {l14 : Nat} {l15 : Int} {l16 : Int} (K : ∃ (kd n1 : Nat) (f : Nat → mx_V), sH σ (l4) = some (.inr (kd, n1, f)) ∧ 2 ≤ kd ∧ 0 ≤ l10 ∧ l10 < (n1 : Int) ∧ ∃ x2, f (l10).toNat = mR x2 ∧ ∃ (kd n3 : Nat) (f : Nat → mx_V), sH σ (x2) = some (.inr (kd, n3, f)) ∧ (¬ mx_w (l11 + l16) = (n3 : Int) → mx_J YL_law kb wb 395 [some (mR l0), some (mR l1), some (mI l2), some (mI l3), some (mR l4), some (mI l5), some (mI l6), some (mR l7), some (mR l8), some (mI l9), some (mI l10), some (mI l11), some (mI l12), some (mI l13), some (mR l14), some (mI l15), some (mI l16), none, none, none, none, none, none] [mI ((0 : Int))] σ Q) ∧ (¬ (¬ mx_w (l11 + l16) = (n3 : Int)) → mx_J YL_law kb wb 395 [some (mR l0), some (mR l1), some (mI l2), some (mI l3), some (mR l4), some (mI l5), some (mI l6), some (mR l7), some (mR l8), some (mI l9), some (mI l10), some (mI l11), some (mI l12), some (mI l13), some (mR l14), some (mI l15), some (mI l16), none, none, none, none, none, none] [mI ((1 : Int))] σ Q)) : mx_J YL_law kb wb 376 [some (mR l0), some (mR l1), some (mI l2), some (mI l3), some (mR l4), some (mI l5), some (mI l6), some (mR l7), some (mR l8), some (mI l9), some (mI l10), some (mI l11), some (mI l12), some (mI l13), some (mR l14), some (mI l15), some (mI l16), none, none, none, none, none, none] [] σ Q := by
  refine mj_iload (k := 11) dL_law_376 rfl ?_
  refine mj_iload (k := 16) dL_law_378 rfl ?_
  refine mj_iadd dL_law_380 ?_
  refine mj_aload (k := 4) dL_law_381 rfl ?_
  refine mj_iload (k := 10) dL_law_383 rfl ?_
  obtain ⟨kd, n1, fn1, hfn1, hrn1, h0n1, h1n1, x2, hxx2, K⟩ := K
  refine mj_aald dL_law_385 hfn1 hrn1 h0n1 h1n1 ?_
  rw [hxx2]
  obtain ⟨kd, n3, fn3, hfn3, K⟩ := K
  refine mj_alen dL_law_386 hfn3 ?_
  refine mj_icmp_ne (tgt := 394) dL_law_387 (by decide) ⟨fun h => ?_, fun h => ?_⟩
  · replace K := K.1 h
    refine mj_iconst dL_law_394 ⟨by decide, by decide⟩ ?_
    exact K
  · replace K := K.2 h
    refine mj_iconst dL_law_390 ⟨by decide, by decide⟩ ?_
    refine mj_goto (tgt := 395) dL_law_391 (by decide) ?_
    exact K
theorem B_YL_law_1023 {kb wb : Nat} {σ : mx_S} {Q : mx_R → Prop} {l0 : Nat} {l1 : Nat} {l2 : Int} {l3 : Int} {l4 : Nat} {l5 : Int} {l6 : Int} {l7 : Nat} {l8 : Nat} {l9 : Int} {l10 : Int} {l11 : Int} {l12 : Nat} {l13 : Nat} {l14 : Int} {l15 : Int} {l16 : Int} (K : ∃ (kd n1 : Nat) (f : Nat → mx_V), sH σ (l4) = some (.inr (kd, n1, f)) ∧ 2 ≤ kd ∧ 0 ≤ l15 ∧ l15 < (n1 : Int) ∧ ∃ x2, f (l15).toNat = mR x2 ∧ ∃ (kd n3 : Nat) (f : Nat → mx_V), sH σ (x2) = some (.inr (kd, n3, f)) ∧ ((n3 : Int) ≤ l16 → mx_J YL_law kb wb 1014 [some (mR l0), some (mR l1), some (mI l2), some (mI l3), some (mR l4), some (mI l5), some (mI l6), some (mR l7), some (mR l8), some (mI l9), some (mI l10), some (mI l11), some (mR l12), some (mR l13), some (mI l14), some (mI (mx_w (l15 + (1 : Int)))), none, none, none, none, none, none, none] [] σ Q) ∧ (¬ ((n3 : Int) ≤ l16) → ∃ (kd n4 : Nat) (f : Nat → mx_V), sH σ (l4) = some (.inr (kd, n4, f)) ∧ 2 ≤ kd ∧ 0 ≤ l15 ∧ l15 < (n4 : Int) ∧ ∃ x5, f (l15).toNat = mR x5 ∧ ∃ (r7 : Int) (σ6 : mx_S), mx_MS YL_isAt [mR x5, mI l16, mR l13] σ (.inl (some (mI r7), σ6)) ∧ sK σ6 ≤ kb ∧ sW σ6 ≤ wb ∧ (r7 = (0 : Int) → mx_J YL_law kb wb 1082 [some (mR l0), some (mR l1), some (mI l2), some (mI l3), some (mR l4), some (mI l5), some (mI l6), some (mR l7), some (mR l8), some (mI l9), some (mI l10), some (mI l11), some (mR l12), some (mR l13), some (mI l14), some (mI l15), some (mI l16), some (mI r7), none, none, none, none, none] [mI l2] σ6 Q) ∧ (¬ (r7 = (0 : Int)) → ∃ (r8 : Int) (σ9 : mx_S), mx_MSN YL_found [mR l1, mI l6, mI l14, mI ((0 : Int))] σ6 (some (mI r8)) σ9 ∧ sK σ9 ≤ kb ∧ sW σ9 ≤ wb ∧ ∀ (n11 : Nat) (σ10 : mx_S), sN σ9 ≤ n11 → σ10 = mx_at_n σ9 n11 → (¬ r8 = l15 → mx_J YL_law kb wb 1086 [some (mR l0), some (mR l1), some (mI l2), some (mI l3), some (mR l4), some (mI l5), some (mI l6), some (mR l7), some (mR l8), some (mI l9), some (mI l10), some (mI l11), some (mR l12), some (mR l13), some (mI l14), some (mI l15), some (mI l16), some (mI r7), none, none, none, none, none] [mI l2] σ10 Q) ∧ (¬ (¬ r8 = l15) → ∃ (r12 : Int) (σ13 : mx_S), mx_MSN YL_found [mR l1, mI l6, mI l14, mI ((1 : Int))] σ10 (some (mI r12)) σ13 ∧ sK σ13 ≤ kb ∧ sW σ13 ≤ wb ∧ ∀ (n15 : Nat) (σ14 : mx_S), sN σ13 ≤ n15 → σ14 = mx_at_n σ13 n15 → (¬ r12 = l16 → mx_J YL_law kb wb 1086 [some (mR l0), some (mR l1), some (mI l2), some (mI l3), some (mR l4), some (mI l5), some (mI l6), some (mR l7), some (mR l8), some (mI l9), some (mI l10), some (mI l11), some (mR l12), some (mR l13), some (mI l14), some (mI l15), some (mI l16), some (mI r7), none, none, none, none, none] [mI l2] σ14 Q) ∧ (¬ (¬ r12 = l16) → mx_J YL_law kb wb 1082 [some (mR l0), some (mR l1), some (mI l2), some (mI l3), some (mR l4), some (mI l5), some (mI l6), some (mR l7), some (mR l8), some (mI l9), some (mI l10), some (mI l11), some (mR l12), some (mR l13), some (mI l14), some (mI l15), some (mI l16), some (mI r7), none, none, none, none, none] [mI l2] σ14 Q))))) : mx_J YL_law kb wb 1023 [some (mR l0), some (mR l1), some (mI l2), some (mI l3), some (mR l4), some (mI l5), some (mI l6), some (mR l7), some (mR l8), some (mI l9), some (mI l10), some (mI l11), some (mR l12), some (mR l13), some (mI l14), some (mI l15), some (mI l16), none, none, none, none, none, none] [] σ Q := by
  refine mj_iload (k := 16) dL_law_1023 rfl ?_
  refine mj_aload (k := 4) dL_law_1025 rfl ?_
  refine mj_iload (k := 15) dL_law_1027 rfl ?_
  obtain ⟨kd, n1, fn1, hfn1, hrn1, h0n1, h1n1, x2, hxx2, K⟩ := K
  refine mj_aald dL_law_1029 hfn1 hrn1 h0n1 h1n1 ?_
  rw [hxx2]
  obtain ⟨kd, n3, fn3, hfn3, K⟩ := K
  refine mj_alen dL_law_1030 hfn3 ?_
  refine mj_icmp_ge (tgt := 1110) dL_law_1031 (by decide) ⟨fun h => ?_, fun h => ?_⟩
  · replace K := K.1 h
    refine mj_iinc (k := 15) (ls' := [some (mR l0), some (mR l1), some (mI l2), some (mI l3), some (mR l4), some (mI l5), some (mI l6), some (mR l7), some (mR l8), some (mI l9), some (mI l10), some (mI l11), some (mR l12), some (mR l13), some (mI l14), some (mI (mx_w (l15 + (1 : Int)))), some (mI l16), none, none, none, none, none, none]) dL_law_1110 rfl (by decide) rfl ?_
    refine mj_goto (tgt := 1014) dL_law_1113 (by decide) ?_
    exact mj_forget (ls' := [some (mR l0), some (mR l1), some (mI l2), some (mI l3), some (mR l4), some (mI l5), some (mI l6), some (mR l7), some (mR l8), some (mI l9), some (mI l10), some (mI l11), some (mR l12), some (mR l13), some (mI l14), some (mI (mx_w (l15 + (1 : Int)))), none, none, none, none, none, none, none]) ⟨rfl, ⟨rfl, ⟨rfl, ⟨rfl, ⟨rfl, ⟨rfl, ⟨rfl, ⟨rfl, ⟨rfl, ⟨rfl, ⟨rfl, ⟨rfl, ⟨rfl, ⟨rfl, ⟨rfl, ⟨rfl, trivial⟩⟩⟩⟩⟩⟩⟩⟩⟩⟩⟩⟩⟩⟩⟩⟩ K
  · replace K := K.2 h
    refine mj_aload (k := 4) dL_law_1034 rfl ?_
    refine mj_iload (k := 15) dL_law_1036 rfl ?_
    obtain ⟨kd, n4, fn4, hfn4, hrn4, h0n4, h1n4, x5, hxx5, K⟩ := K
    refine mj_aald dL_law_1038 hfn4 hrn4 h0n4 h1n4 ?_
    rw [hxx5]
    refine mj_iload (k := 16) dL_law_1039 rfl ?_
    refine mj_aload (k := 13) dL_law_1041 rfl ?_
    obtain ⟨r7, σ6, hMσ6, hkσ6, hwσ6, K⟩ := K
    refine mj_callS (As := [mR x5, mI l16, mR l13]) (rest := []) dL_law_1043 k_YL_law_132 rfl (Nat.le_of_ble_eq_true rfl) hMσ6 hkσ6 hwσ6 ?_
    refine mj_istore (k := 17) (ls' := [some (mR l0), some (mR l1), some (mI l2), some (mI l3), some (mR l4), some (mI l5), some (mI l6), some (mR l7), some (mR l8), some (mI l9), some (mI l10), some (mI l11), some (mR l12), some (mR l13), some (mI l14), some (mI l15), some (mI l16), some (mI r7), none, none, none, none, none]) dL_law_1046 (by decide) rfl ?_
    refine mj_iload_n (k := 2) dL_law_1048 rfl rfl ?_
    refine mj_iload (k := 17) dL_law_1049 rfl ?_
    refine mj_if_eq (tgt := 1082) dL_law_1051 (by decide) ⟨fun h => ?_, fun h => ?_⟩
    · replace K := K.1 h
      exact K
    · replace K := K.2 h
      refine mj_aload_n (k := 1) dL_law_1054 rfl rfl ?_
      refine mj_iload (k := 6) dL_law_1055 rfl ?_
      refine mj_iload (k := 14) dL_law_1057 rfl ?_
      refine mj_iconst dL_law_1059 ⟨by decide, by decide⟩ ?_
      obtain ⟨r8, σ9, hMσ9, hkσ9, hwσ9, K⟩ := K
      refine mj_callSWN (As := [mR l1, mI l6, mI l14, mI ((0 : Int))]) (rest := [mI l2]) dL_law_1060 k_YL_law_136 rfl (Nat.le_of_ble_eq_true rfl) hMσ9 hkσ9 hwσ9 (fun n11 hnn11 => ?_)
      replace K := K n11 _ hnn11 rfl
      generalize mx_at_n σ9 n11 = σ10 at K ⊢
      refine mj_iload (k := 15) dL_law_1063 rfl ?_
      refine mj_icmp_ne (tgt := 1086) dL_law_1065 (by decide) ⟨fun h => ?_, fun h => ?_⟩
      · replace K := K.1 h
        exact K
      · replace K := K.2 h
        refine mj_aload_n (k := 1) dL_law_1068 rfl rfl ?_
        refine mj_iload (k := 6) dL_law_1069 rfl ?_
        refine mj_iload (k := 14) dL_law_1071 rfl ?_
        refine mj_iconst dL_law_1073 ⟨by decide, by decide⟩ ?_
        obtain ⟨r12, σ13, hMσ13, hkσ13, hwσ13, K⟩ := K
        refine mj_callSWN (As := [mR l1, mI l6, mI l14, mI ((1 : Int))]) (rest := [mI l2]) dL_law_1074 k_YL_law_136 rfl (Nat.le_of_ble_eq_true rfl) hMσ13 hkσ13 hwσ13 (fun n15 hnn15 => ?_)
        replace K := K n15 _ hnn15 rfl
        generalize mx_at_n σ13 n15 = σ14 at K ⊢
        refine mj_iload (k := 16) dL_law_1077 rfl ?_
        refine mj_icmp_ne (tgt := 1086) dL_law_1079 (by decide) ⟨fun h => ?_, fun h => ?_⟩
        · replace K := K.1 h
          exact K
        · replace K := K.2 h
          exact K
theorem B_YL_law_999 {kb wb : Nat} {σ : mx_S} {Q : mx_R → Prop} {l0 : Nat} {l1 : Nat} {l2 : Int} {l3 : Int} {l4 : Nat} {l5 : Int} {l6 : Int} {l7 : Nat} {l8 : Nat} {l9 : Int} {l10 : Int} {l11 : Int} {l12 : Nat} {l13 : Nat} {l14 : Int} {l15 : Int} {l16 : Int} {l17 : Int} {s0 : Int} (K : mx_J YL_law kb wb 1000 [some (mR l0), some (mR l1), some (mI l2), some (mI l3), some (mR l4), some (mI l5), some (mI l6), some (mR l7), some (mR l8), some (mI l9), some (mI l10), some (mI l11), some (mR l12), some (mR l13), some (mI l14), some (mI l15), some (mI l16), some (mI l17), none, none, none, none, none] [mI ((0 : Int)), mI s0] σ Q) : mx_J YL_law kb wb 999 [some (mR l0), some (mR l1), some (mI l2), some (mI l3), some (mR l4), some (mI l5), some (mI l6), some (mR l7), some (mR l8), some (mI l9), some (mI l10), some (mI l11), some (mR l12), some (mR l13), some (mI l14), some (mI l15), some (mI l16), some (mI l17), none, none, none, none, none] [mI s0] σ Q := by
  refine mj_iconst dL_law_999 ⟨by decide, by decide⟩ ?_
  exact K
theorem B_YL_law_1000 {kb wb : Nat} {σ : mx_S} {Q : mx_R → Prop} {l0 : Nat} {l1 : Nat} {l2 : Int} {l3 : Int} {l4 : Nat} {l5 : Int} {l6 : Int} {l7 : Nat} {l8 : Nat} {l9 : Int} {l10 : Int} {l11 : Int} {l12 : Nat} {l13 : Nat} {l14 : Int} {l15 : Int} {l16 : Int} {l17 : Int} {s0 : Int} {s1 : Int} (K : mx_J YL_law kb wb 826 [some (mR l0), some (mR l1), some (mI (mx_and (s1) (s0))), some (mI l3), some (mR l4), some (mI l5), some (mI l6), some (mR l7), some (mR l8), some (mI l9), some (mI l10), some (mI l11), some (mR l12), some (mR l13), some (mI (mx_w (l14 + (1 : Int)))), none, none, none, none, none, none, none, none] [] σ Q) : mx_J YL_law kb wb 1000 [some (mR l0), some (mR l1), some (mI l2), some (mI l3), some (mR l4), some (mI l5), some (mI l6), some (mR l7), some (mR l8), some (mI l9), some (mI l10), some (mI l11), some (mR l12), some (mR l13), some (mI l14), some (mI l15), some (mI l16), some (mI l17), none, none, none, none, none] [mI s0, mI s1] σ Q := by
  refine mj_iand dL_law_1000 ?_
  refine mj_istore_n (k := 2) (ls' := [some (mR l0), some (mR l1), some (mI (mx_and (s1) (s0))), some (mI l3), some (mR l4), some (mI l5), some (mI l6), some (mR l7), some (mR l8), some (mI l9), some (mI l10), some (mI l11), some (mR l12), some (mR l13), some (mI l14), some (mI l15), some (mI l16), some (mI l17), none, none, none, none, none]) dL_law_1001 rfl (by decide) rfl ?_
  refine mj_iinc (k := 14) (ls' := [some (mR l0), some (mR l1), some (mI (mx_and (s1) (s0))), some (mI l3), some (mR l4), some (mI l5), some (mI l6), some (mR l7), some (mR l8), some (mI l9), some (mI l10), some (mI l11), some (mR l12), some (mR l13), some (mI (mx_w (l14 + (1 : Int)))), some (mI l15), some (mI l16), some (mI l17), none, none, none, none, none]) dL_law_1002 rfl (by decide) rfl ?_
  refine mj_goto (tgt := 826) dL_law_1005 (by decide) ?_
  exact mj_forget (ls' := [some (mR l0), some (mR l1), some (mI (mx_and (s1) (s0))), some (mI l3), some (mR l4), some (mI l5), some (mI l6), some (mR l7), some (mR l8), some (mI l9), some (mI l10), some (mI l11), some (mR l12), some (mR l13), some (mI (mx_w (l14 + (1 : Int)))), none, none, none, none, none, none, none, none]) ⟨rfl, ⟨rfl, ⟨rfl, ⟨rfl, ⟨rfl, ⟨rfl, ⟨rfl, ⟨rfl, ⟨rfl, ⟨rfl, ⟨rfl, ⟨rfl, ⟨rfl, ⟨rfl, ⟨rfl, trivial⟩⟩⟩⟩⟩⟩⟩⟩⟩⟩⟩⟩⟩⟩⟩ K
theorem B_YL_law_866 {kb wb : Nat} {σ : mx_S} {Q : mx_R → Prop} {l0 : Nat} {l1 : Nat} {l2 : Int} {l3 : Int} {l4 : Nat} {l5 : Int} {l6 : Int} {l7 : Nat} {l8 : Nat} {l9 : Int} {l10 : Int} {l11 : Int} {l12 : Nat} {l13 : Nat} {l14 : Int} {l15 : Int} {l16 : Int} {l17 : Int} {l18 : Nat} {l19 : Int} {l20 : Int} (K : (l14 ≤ l20 → mx_J YL_law kb wb 930 [some (mR l0), some (mR l1), some (mI l2), some (mI l3), some (mR l4), some (mI l5), some (mI l6), some (mR l7), some (mR l8), some (mI l9), some (mI l10), some (mI l11), some (mR l12), some (mR l13), some (mI l14), some (mI l15), some (mI l16), some (mI l17), some (mR l18), some (mI l19), some (mI l20), none, none] [] σ Q) ∧ (¬ (l14 ≤ l20) → (¬ l19 = (0 : Int) → mx_J YL_law kb wb 930 [some (mR l0), some (mR l1), some (mI l2), some (mI l3), some (mR l4), some (mI l5), some (mI l6), some (mR l7), some (mR l8), some (mI l9), some (mI l10), some (mI l11), some (mR l12), some (mR l13), some (mI l14), some (mI l15), some (mI l16), some (mI l17), some (mR l18), some (mI l19), some (mI l20), none, none] [] σ Q) ∧ (¬ (¬ l19 = (0 : Int)) → ∃ (kd n1 : Nat) (f : Nat → mx_V), sH σ (l13) = some (.inr (kd, n1, f)) ∧ ∃ (n2 : Nat) (f : Nat → mx_V), sH σ (l13) = some (.inr (1, n2, f)) ∧ 0 ≤ mx_w (mx_w ((n1 : Int) - l14) + l20) ∧ mx_w (mx_w ((n1 : Int) - l14) + l20) < (n2 : Int) ∧ ∃ x3, f (mx_w (mx_w ((n1 : Int) - l14) + l20)).toNat = mI x3 ∧ ∃ (n4 : Nat) (f : Nat → mx_V), sH σ (l8) = some (.inr (0, n4, f)) ∧ 0 ≤ l17 ∧ l17 < (n4 : Int) ∧ ∃ x5, f (l17).toNat = mI x5 ∧ ∃ (kd n6 : Nat) (f : Nat → mx_V), sH σ (l18) = some (.inr (kd, n6, f)) ∧ (¬ mx_w (x5 + l20) = (n6 : Int) → ∃ (n7 : Nat) (f : Nat → mx_V), sH σ (l18) = some (.inr (1, n7, f)) ∧ 0 ≤ mx_w (x5 + l20) ∧ mx_w (x5 + l20) < (n7 : Int) ∧ ∃ x8, f (mx_w (x5 + l20)).toNat = mI x8 ∧ mx_J YL_law kb wb 922 [some (mR l0), some (mR l1), some (mI l2), some (mI l3), some (mR l4), some (mI l5), some (mI l6), some (mR l7), some (mR l8), some (mI l9), some (mI l10), some (mI l11), some (mR l12), some (mR l13), some (mI l14), some (mI l15), some (mI l16), some (mI l17), some (mR l18), some (mI l19), some (mI l20), some (mI x3), some (mI (mx_w (x5 + l20)))] [mI (mx_w (x8 - x3))] σ Q) ∧ (¬ (¬ mx_w (x5 + l20) = (n6 : Int)) → mx_J YL_law kb wb 922 [some (mR l0), some (mR l1), some (mI l2), some (mI l3), some (mR l4), some (mI l5), some (mI l6), some (mR l7), some (mR l8), some (mI l9), some (mI l10), some (mI l11), some (mR l12), some (mR l13), some (mI l14), some (mI l15), some (mI l16), some (mI l17), some (mR l18), some (mI l19), some (mI l20), some (mI x3), some (mI (mx_w (x5 + l20)))] [mI ((-1 : Int))] σ Q)))) : mx_J YL_law kb wb 866 [some (mR l0), some (mR l1), some (mI l2), some (mI l3), some (mR l4), some (mI l5), some (mI l6), some (mR l7), some (mR l8), some (mI l9), some (mI l10), some (mI l11), some (mR l12), some (mR l13), some (mI l14), some (mI l15), some (mI l16), some (mI l17), some (mR l18), some (mI l19), some (mI l20), none, none] [] σ Q := by
  refine mj_iload (k := 20) dL_law_866 rfl ?_
  refine mj_iload (k := 14) dL_law_868 rfl ?_
  refine mj_icmp_ge (tgt := 930) dL_law_870 (by decide) ⟨fun h => ?_, fun h => ?_⟩
  · replace K := K.1 h
    exact K
  · replace K := K.2 h
    refine mj_iload (k := 19) dL_law_873 rfl ?_
    refine mj_if_ne (tgt := 930) dL_law_875 (by decide) ⟨fun h => ?_, fun h => ?_⟩
    · replace K := K.1 h
      exact K
    · replace K := K.2 h
      refine mj_aload (k := 13) dL_law_878 rfl ?_
      refine mj_aload (k := 13) dL_law_880 rfl ?_
      obtain ⟨kd, n1, fn1, hfn1, K⟩ := K
      refine mj_alen dL_law_882 hfn1 ?_
      refine mj_iload (k := 14) dL_law_883 rfl ?_
      refine mj_isub dL_law_885 ?_
      refine mj_iload (k := 20) dL_law_886 rfl ?_
      refine mj_iadd dL_law_888 ?_
      obtain ⟨n2, fn2, hfn2, h0n2, h1n2, x3, hxx3, K⟩ := K
      refine mj_cald dL_law_889 hfn2 h0n2 h1n2 ?_
      rw [hxx3]
      refine mj_istore (k := 21) (ls' := [some (mR l0), some (mR l1), some (mI l2), some (mI l3), some (mR l4), some (mI l5), some (mI l6), some (mR l7), some (mR l8), some (mI l9), some (mI l10), some (mI l11), some (mR l12), some (mR l13), some (mI l14), some (mI l15), some (mI l16), some (mI l17), some (mR l18), some (mI l19), some (mI l20), some (mI x3), none]) dL_law_890 (by decide) rfl ?_
      refine mj_aload (k := 8) dL_law_892 rfl ?_
      refine mj_iload (k := 17) dL_law_894 rfl ?_
      obtain ⟨n4, fn4, hfn4, h0n4, h1n4, x5, hxx5, K⟩ := K
      refine mj_iald dL_law_896 hfn4 h0n4 h1n4 ?_
      rw [hxx5]
      refine mj_iload (k := 20) dL_law_897 rfl ?_
      refine mj_iadd dL_law_899 ?_
      refine mj_istore (k := 22) (ls' := [some (mR l0), some (mR l1), some (mI l2), some (mI l3), some (mR l4), some (mI l5), some (mI l6), some (mR l7), some (mR l8), some (mI l9), some (mI l10), some (mI l11), some (mR l12), some (mR l13), some (mI l14), some (mI l15), some (mI l16), some (mI l17), some (mR l18), some (mI l19), some (mI l20), some (mI x3), some (mI (mx_w (x5 + l20)))]) dL_law_900 (by decide) rfl ?_
      refine mj_iload (k := 22) dL_law_902 rfl ?_
      refine mj_aload (k := 18) dL_law_904 rfl ?_
      obtain ⟨kd, n6, fn6, hfn6, K⟩ := K
      refine mj_alen dL_law_906 hfn6 ?_
      refine mj_icmp_ne (tgt := 914) dL_law_907 (by decide) ⟨fun h => ?_, fun h => ?_⟩
      · replace K := K.1 h
        refine mj_aload (k := 18) dL_law_914 rfl ?_
        refine mj_iload (k := 22) dL_law_916 rfl ?_
        obtain ⟨n7, fn7, hfn7, h0n7, h1n7, x8, hxx8, K⟩ := K
        refine mj_cald dL_law_918 hfn7 h0n7 h1n7 ?_
        rw [hxx8]
        refine mj_iload (k := 21) dL_law_919 rfl ?_
        refine mj_isub dL_law_921 ?_
        exact K
      · replace K := K.2 h
        refine mj_iconst dL_law_910 ⟨by decide, by decide⟩ ?_
        refine mj_goto (tgt := 922) dL_law_911 (by decide) ?_
        exact K
theorem B_YL_law_659 {kb wb : Nat} {σ : mx_S} {Q : mx_R → Prop} {l0 : Nat} {l1 : Nat} {l2 : Int} {l3 : Int} {l4 : Nat} {l5 : Int} {l6 : Int} {l7 : Nat} {l8 : Nat} {l9 : Int} {l10 : Int} {l11 : Int} {l12 : Nat} {l13 : Int} {l14 : Int} {l15 : Int} {s0 : Int} (K : mx_J YL_law kb wb 660 [some (mR l0), some (mR l1), some (mI l2), some (mI l3), some (mR l4), some (mI l5), some (mI l6), some (mR l7), some (mR l8), some (mI l9), some (mI l10), some (mI l11), some (mR l12), some (mI l13), some (mI l14), some (mI l15), none, none, none, none, none, none, none] [mI ((0 : Int)), mI s0] σ Q) : mx_J YL_law kb wb 659 [some (mR l0), some (mR l1), some (mI l2), some (mI l3), some (mR l4), some (mI l5), some (mI l6), some (mR l7), some (mR l8), some (mI l9), some (mI l10), some (mI l11), some (mR l12), some (mI l13), some (mI l14), some (mI l15), none, none, none, none, none, none, none] [mI s0] σ Q := by
  refine mj_iconst dL_law_659 ⟨by decide, by decide⟩ ?_
  exact K
theorem B_YL_law_660 {kb wb : Nat} {σ : mx_S} {Q : mx_R → Prop} {l0 : Nat} {l1 : Nat} {l2 : Int} {l3 : Int} {l4 : Nat} {l5 : Int} {l6 : Int} {l7 : Nat} {l8 : Nat} {l9 : Int} {l10 : Int} {l11 : Int} {l12 : Nat} {l13 : Int} {l14 : Int} {l15 : Int} {s0 : Int} {s1 : Int} (K : ∃ (n1 : Nat) (f : Nat → mx_V), sH σ (l12) = some (.inr (0, n1, f)) ∧ 0 ≤ l15 ∧ l15 < (n1 : Int) ∧ ∃ x2, f (l15).toNat = mI x2 ∧ ∃ (n3 : Nat) (f : Nat → mx_V), sH σ (l12) = some (.inr (0, n3, f)) ∧ sB σ ≤ l12 ∧ 0 ≤ l15 ∧ l15 < (n3 : Int) ∧ ∀ σ4, σ4 = mx_wr σ (l12) (.inr (0, n3, upV f (l15).toNat (mI (mx_w (x2 + (1 : Int)))))) → ∃ (r5 : Int) (σ6 : mx_S), mx_MSN YL_suffixAt [mR l1, mI l6, mI l13, mI ((100 : Int))] σ4 (some (mI r5)) σ6 ∧ sK σ6 ≤ kb ∧ sW σ6 ≤ wb ∧ ∀ (n8 : Nat) (σ7 : mx_S), sN σ6 ≤ n8 → σ7 = mx_at_n σ6 n8 → ∃ (n9 : Nat) (f : Nat → mx_V), sH σ7 (l7) = some (.inr (0, n9, f)) ∧ 0 ≤ l13 ∧ l13 < (n9 : Int) ∧ ∃ x10, f (l13).toNat = mI x10 ∧ (¬ r5 = x10 → mx_J YL_law kb wb 733 [some (mR l0), some (mR l1), some (mI (mx_and (s1) (s0))), some (mI l3), some (mR l4), some (mI l5), some (mI l6), some (mR l7), some (mR l8), some (mI l9), some (mI l10), some (mI l11), some (mR l12), some (mI l13), some (mI l14), some (mI l15), none, none, none, none, none, none, none] [mI (mx_and (s1) (s0))] σ7 Q) ∧ (¬ (¬ r5 = x10) → ∃ (r11 : Int) (σ12 : mx_S), mx_MSN YL_suffixAt [mR l1, mI l6, mI l13, mI ((112 : Int))] σ7 (some (mI r11)) σ12 ∧ sK σ12 ≤ kb ∧ sW σ12 ≤ wb ∧ ∀ (n14 : Nat) (σ13 : mx_S), sN σ12 ≤ n14 → σ13 = mx_at_n σ12 n14 → ∃ (n15 : Nat) (f : Nat → mx_V), sH σ13 (l8) = some (.inr (0, n15, f)) ∧ 0 ≤ l13 ∧ l13 < (n15 : Int) ∧ ∃ x16, f (l13).toNat = mI x16 ∧ (¬ r11 = x16 → mx_J YL_law kb wb 733 [some (mR l0), some (mR l1), some (mI (mx_and (s1) (s0))), some (mI l3), some (mR l4), some (mI l5), some (mI l6), some (mR l7), some (mR l8), some (mI l9), some (mI l10), some (mI l11), some (mR l12), some (mI l13), some (mI l14), some (mI l15), none, none, none, none, none, none, none] [mI (mx_and (s1) (s0))] σ13 Q) ∧ (¬ (¬ r11 = x16) → ∃ (n17 : Nat) (f : Nat → mx_V), sH σ13 (l7) = some (.inr (0, n17, f)) ∧ 0 ≤ l13 ∧ l13 < (n17 : Int) ∧ ∃ x18, f (l13).toNat = mI x18 ∧ ∃ (n19 : Nat) (f : Nat → mx_V), sH σ13 (l8) = some (.inr (0, n19, f)) ∧ 0 ≤ l13 ∧ l13 < (n19 : Int) ∧ ∃ x20, f (l13).toNat = mI x20 ∧ ∃ (r21 : Int) (σ22 : mx_S), mx_MSN YL_rankOf [mR l1, mI l6, mI x18, mI x20] σ13 (some (mI r21)) σ22 ∧ sK σ22 ≤ kb ∧ sW σ22 ≤ wb ∧ ∀ (n24 : Nat) (σ23 : mx_S), sN σ22 ≤ n24 → σ23 = mx_at_n σ22 n24 → (¬ r21 = l13 → mx_J YL_law kb wb 733 [some (mR l0), some (mR l1), some (mI (mx_and (s1) (s0))), some (mI l3), some (mR l4), some (mI l5), some (mI l6), some (mR l7), some (mR l8), some (mI l9), some (mI l10), some (mI l11), some (mR l12), some (mI l13), some (mI l14), some (mI l15), none, none, none, none, none, none, none] [mI (mx_and (s1) (s0))] σ23 Q) ∧ (¬ (¬ r21 = l13) → mx_J YL_law kb wb 734 [some (mR l0), some (mR l1), some (mI (mx_and (s1) (s0))), some (mI l3), some (mR l4), some (mI l5), some (mI l6), some (mR l7), some (mR l8), some (mI l9), some (mI l10), some (mI l11), some (mR l12), some (mI l13), some (mI l14), some (mI l15), none, none, none, none, none, none, none] [mI ((1 : Int)), mI (mx_and (s1) (s0))] σ23 Q)))) : mx_J YL_law kb wb 660 [some (mR l0), some (mR l1), some (mI l2), some (mI l3), some (mR l4), some (mI l5), some (mI l6), some (mR l7), some (mR l8), some (mI l9), some (mI l10), some (mI l11), some (mR l12), some (mI l13), some (mI l14), some (mI l15), none, none, none, none, none, none, none] [mI s0, mI s1] σ Q := by
  refine mj_iand dL_law_660 ?_
  refine mj_istore_n (k := 2) (ls' := [some (mR l0), some (mR l1), some (mI (mx_and (s1) (s0))), some (mI l3), some (mR l4), some (mI l5), some (mI l6), some (mR l7), some (mR l8), some (mI l9), some (mI l10), some (mI l11), some (mR l12), some (mI l13), some (mI l14), some (mI l15), none, none, none, none, none, none, none]) dL_law_661 rfl (by decide) rfl ?_
  refine mj_aload (k := 12) dL_law_662 rfl ?_
  refine mj_iload (k := 15) dL_law_664 rfl ?_
  refine mj_dup2 dL_law_666 rfl rfl ?_
  obtain ⟨n1, fn1, hfn1, h0n1, h1n1, x2, hxx2, K⟩ := K
  refine mj_iald dL_law_667 hfn1 h0n1 h1n1 ?_
  rw [hxx2]
  refine mj_iconst dL_law_668 ⟨by decide, by decide⟩ ?_
  refine mj_iadd dL_law_669 ?_
  obtain ⟨n3, fn3, hfn3, hbn3, h0n3, h1n3, K⟩ := K
  replace K := K _ rfl
  refine mj_iast dL_law_670 hfn3 hbn3 h0n3 h1n3 ?_
  generalize mx_wr σ (l12) (.inr (0, n3, upV fn3 (l15).toNat (mI (mx_w (x2 + (1 : Int)))))) = σ4 at K ⊢
  refine mj_iload_n (k := 2) dL_law_671 rfl rfl ?_
  refine mj_aload_n (k := 1) dL_law_672 rfl rfl ?_
  refine mj_iload (k := 6) dL_law_673 rfl ?_
  refine mj_iload (k := 13) dL_law_675 rfl ?_
  refine mj_bipush (n := 100) dL_law_677 ⟨by decide, by decide⟩ (by decide) ?_
  obtain ⟨r5, σ6, hMσ6, hkσ6, hwσ6, K⟩ := K
  refine mj_callSWN (As := [mR l1, mI l6, mI l13, mI ((100 : Int))]) (rest := [mI (mx_and (s1) (s0))]) dL_law_679 k_YL_law_101 rfl (Nat.le_of_ble_eq_true rfl) hMσ6 hkσ6 hwσ6 (fun n8 hnn8 => ?_)
  replace K := K n8 _ hnn8 rfl
  generalize mx_at_n σ6 n8 = σ7 at K ⊢
  refine mj_aload (k := 7) dL_law_682 rfl ?_
  refine mj_iload (k := 13) dL_law_684 rfl ?_
  obtain ⟨n9, fn9, hfn9, h0n9, h1n9, x10, hxx10, K⟩ := K
  refine mj_iald dL_law_686 hfn9 h0n9 h1n9 ?_
  rw [hxx10]
  refine mj_icmp_ne (tgt := 733) dL_law_687 (by decide) ⟨fun h => ?_, fun h => ?_⟩
  · replace K := K.1 h
    exact K
  · replace K := K.2 h
    refine mj_aload_n (k := 1) dL_law_690 rfl rfl ?_
    refine mj_iload (k := 6) dL_law_691 rfl ?_
    refine mj_iload (k := 13) dL_law_693 rfl ?_
    refine mj_bipush (n := 112) dL_law_695 ⟨by decide, by decide⟩ (by decide) ?_
    obtain ⟨r11, σ12, hMσ12, hkσ12, hwσ12, K⟩ := K
    refine mj_callSWN (As := [mR l1, mI l6, mI l13, mI ((112 : Int))]) (rest := [mI (mx_and (s1) (s0))]) dL_law_697 k_YL_law_101 rfl (Nat.le_of_ble_eq_true rfl) hMσ12 hkσ12 hwσ12 (fun n14 hnn14 => ?_)
    replace K := K n14 _ hnn14 rfl
    generalize mx_at_n σ12 n14 = σ13 at K ⊢
    refine mj_aload (k := 8) dL_law_700 rfl ?_
    refine mj_iload (k := 13) dL_law_702 rfl ?_
    obtain ⟨n15, fn15, hfn15, h0n15, h1n15, x16, hxx16, K⟩ := K
    refine mj_iald dL_law_704 hfn15 h0n15 h1n15 ?_
    rw [hxx16]
    refine mj_icmp_ne (tgt := 733) dL_law_705 (by decide) ⟨fun h => ?_, fun h => ?_⟩
    · replace K := K.1 h
      exact K
    · replace K := K.2 h
      refine mj_aload_n (k := 1) dL_law_708 rfl rfl ?_
      refine mj_iload (k := 6) dL_law_709 rfl ?_
      refine mj_aload (k := 7) dL_law_711 rfl ?_
      refine mj_iload (k := 13) dL_law_713 rfl ?_
      obtain ⟨n17, fn17, hfn17, h0n17, h1n17, x18, hxx18, K⟩ := K
      refine mj_iald dL_law_715 hfn17 h0n17 h1n17 ?_
      rw [hxx18]
      refine mj_aload (k := 8) dL_law_716 rfl ?_
      refine mj_iload (k := 13) dL_law_718 rfl ?_
      obtain ⟨n19, fn19, hfn19, h0n19, h1n19, x20, hxx20, K⟩ := K
      refine mj_iald dL_law_720 hfn19 h0n19 h1n19 ?_
      rw [hxx20]
      obtain ⟨r21, σ22, hMσ22, hkσ22, hwσ22, K⟩ := K
      refine mj_callSWN (As := [mR l1, mI l6, mI x18, mI x20]) (rest := [mI (mx_and (s1) (s0))]) dL_law_721 k_YL_law_122 rfl (Nat.le_of_ble_eq_true rfl) hMσ22 hkσ22 hwσ22 (fun n24 hnn24 => ?_)
      replace K := K n24 _ hnn24 rfl
      generalize mx_at_n σ22 n24 = σ23 at K ⊢
      refine mj_iload (k := 13) dL_law_724 rfl ?_
      refine mj_icmp_ne (tgt := 733) dL_law_726 (by decide) ⟨fun h => ?_, fun h => ?_⟩
      · replace K := K.1 h
        exact K
      · replace K := K.2 h
        refine mj_iconst dL_law_729 ⟨by decide, by decide⟩ ?_
        refine mj_goto (tgt := 734) dL_law_730 (by decide) ?_
        exact K
theorem B_YL_law_395 {kb wb : Nat} {σ : mx_S} {Q : mx_R → Prop} {l0 : Nat} {l1 : Nat} {l2 : Int} {l3 : Int} {l4 : Nat} {l5 : Int} {l6 : Int} {l7 : Nat} {l8 : Nat} {l9 : Int} {l10 : Int} {l11 : Int} {l12 : Int} {l13 : Int} {l14 : Nat} {l15 : Int} {l16 : Int} {s0 : Int} (K : ∃ (kd n1 : Nat) (f : Nat → mx_V), sH σ (l14) = some (.inr (kd, n1, f)) ∧ (¬ mx_w (l15 + l16) = (n1 : Int) → mx_J YL_law kb wb 413 [some (mR l0), some (mR l1), some (mI l2), some (mI l3), some (mR l4), some (mI l5), some (mI l6), some (mR l7), some (mR l8), some (mI l9), some (mI l10), some (mI l11), some (mI l12), some (mI l13), some (mR l14), some (mI l15), some (mI l16), some (mI s0), none, none, none, none, none] [mI ((0 : Int))] σ Q) ∧ (¬ (¬ mx_w (l15 + l16) = (n1 : Int)) → mx_J YL_law kb wb 413 [some (mR l0), some (mR l1), some (mI l2), some (mI l3), some (mR l4), some (mI l5), some (mI l6), some (mR l7), some (mR l8), some (mI l9), some (mI l10), some (mI l11), some (mI l12), some (mI l13), some (mR l14), some (mI l15), some (mI l16), some (mI s0), none, none, none, none, none] [mI ((1 : Int))] σ Q)) : mx_J YL_law kb wb 395 [some (mR l0), some (mR l1), some (mI l2), some (mI l3), some (mR l4), some (mI l5), some (mI l6), some (mR l7), some (mR l8), some (mI l9), some (mI l10), some (mI l11), some (mI l12), some (mI l13), some (mR l14), some (mI l15), some (mI l16), none, none, none, none, none, none] [mI s0] σ Q := by
  refine mj_istore (k := 17) (ls' := [some (mR l0), some (mR l1), some (mI l2), some (mI l3), some (mR l4), some (mI l5), some (mI l6), some (mR l7), some (mR l8), some (mI l9), some (mI l10), some (mI l11), some (mI l12), some (mI l13), some (mR l14), some (mI l15), some (mI l16), some (mI s0), none, none, none, none, none]) dL_law_395 (by decide) rfl ?_
  refine mj_iload (k := 15) dL_law_397 rfl ?_
  refine mj_iload (k := 16) dL_law_399 rfl ?_
  refine mj_iadd dL_law_401 ?_
  refine mj_aload (k := 14) dL_law_402 rfl ?_
  obtain ⟨kd, n1, fn1, hfn1, K⟩ := K
  refine mj_alen dL_law_404 hfn1 ?_
  refine mj_icmp_ne (tgt := 412) dL_law_405 (by decide) ⟨fun h => ?_, fun h => ?_⟩
  · replace K := K.1 h
    refine mj_iconst dL_law_412 ⟨by decide, by decide⟩ ?_
    exact K
  · replace K := K.2 h
    refine mj_iconst dL_law_408 ⟨by decide, by decide⟩ ?_
    refine mj_goto (tgt := 413) dL_law_409 (by decide) ?_
    exact K
theorem B_YL_law_1082 {kb wb : Nat} {σ : mx_S} {Q : mx_R → Prop} {l0 : Nat} {l1 : Nat} {l2 : Int} {l3 : Int} {l4 : Nat} {l5 : Int} {l6 : Int} {l7 : Nat} {l8 : Nat} {l9 : Int} {l10 : Int} {l11 : Int} {l12 : Nat} {l13 : Nat} {l14 : Int} {l15 : Int} {l16 : Int} {l17 : Int} {s0 : Int} (K : mx_J YL_law kb wb 1087 [some (mR l0), some (mR l1), some (mI l2), some (mI l3), some (mR l4), some (mI l5), some (mI l6), some (mR l7), some (mR l8), some (mI l9), some (mI l10), some (mI l11), some (mR l12), some (mR l13), some (mI l14), some (mI l15), some (mI l16), some (mI l17), none, none, none, none, none] [mI ((1 : Int)), mI s0] σ Q) : mx_J YL_law kb wb 1082 [some (mR l0), some (mR l1), some (mI l2), some (mI l3), some (mR l4), some (mI l5), some (mI l6), some (mR l7), some (mR l8), some (mI l9), some (mI l10), some (mI l11), some (mR l12), some (mR l13), some (mI l14), some (mI l15), some (mI l16), some (mI l17), none, none, none, none, none] [mI s0] σ Q := by
  refine mj_iconst dL_law_1082 ⟨by decide, by decide⟩ ?_
  refine mj_goto (tgt := 1087) dL_law_1083 (by decide) ?_
  exact K
theorem B_YL_law_1086 {kb wb : Nat} {σ : mx_S} {Q : mx_R → Prop} {l0 : Nat} {l1 : Nat} {l2 : Int} {l3 : Int} {l4 : Nat} {l5 : Int} {l6 : Int} {l7 : Nat} {l8 : Nat} {l9 : Int} {l10 : Int} {l11 : Int} {l12 : Nat} {l13 : Nat} {l14 : Int} {l15 : Int} {l16 : Int} {l17 : Int} {s0 : Int} (K : mx_J YL_law kb wb 1087 [some (mR l0), some (mR l1), some (mI l2), some (mI l3), some (mR l4), some (mI l5), some (mI l6), some (mR l7), some (mR l8), some (mI l9), some (mI l10), some (mI l11), some (mR l12), some (mR l13), some (mI l14), some (mI l15), some (mI l16), some (mI l17), none, none, none, none, none] [mI ((0 : Int)), mI s0] σ Q) : mx_J YL_law kb wb 1086 [some (mR l0), some (mR l1), some (mI l2), some (mI l3), some (mR l4), some (mI l5), some (mI l6), some (mR l7), some (mR l8), some (mI l9), some (mI l10), some (mI l11), some (mR l12), some (mR l13), some (mI l14), some (mI l15), some (mI l16), some (mI l17), none, none, none, none, none] [mI s0] σ Q := by
  refine mj_iconst dL_law_1086 ⟨by decide, by decide⟩ ?_
  exact K
theorem B_YL_law_930 {kb wb : Nat} {σ : mx_S} {Q : mx_R → Prop} {l0 : Nat} {l1 : Nat} {l2 : Int} {l3 : Int} {l4 : Nat} {l5 : Int} {l6 : Int} {l7 : Nat} {l8 : Nat} {l9 : Int} {l10 : Int} {l11 : Int} {l12 : Nat} {l13 : Nat} {l14 : Int} {l15 : Int} {l16 : Int} {l17 : Int} {l18 : Nat} {l19 : Int} {l20 : Int} (K : ((0 : Int) ≤ l19 → mx_J YL_law kb wb 942 [some (mR l0), some (mR l1), some (mI l2), some (mI l3), some (mR l4), some (mI l5), some (mI l6), some (mR l7), some (mR l8), some (mI l9), some (mI l10), some (mI l11), some (mR l12), some (mR l13), some (mI l14), some (mI l15), some (mI l16), some (mI l17), some (mR l18), some (mI l19), some (mI l20), none, none] [mI ((0 : Int)), mI l15] σ Q) ∧ (¬ ((0 : Int) ≤ l19) → mx_J YL_law kb wb 942 [some (mR l0), some (mR l1), some (mI l2), some (mI l3), some (mR l4), some (mI l5), some (mI l6), some (mR l7), some (mR l8), some (mI l9), some (mI l10), some (mI l11), some (mR l12), some (mR l13), some (mI l14), some (mI l15), some (mI l16), some (mI l17), some (mR l18), some (mI l19), some (mI l20), none, none] [mI ((1 : Int)), mI l15] σ Q)) : mx_J YL_law kb wb 930 [some (mR l0), some (mR l1), some (mI l2), some (mI l3), some (mR l4), some (mI l5), some (mI l6), some (mR l7), some (mR l8), some (mI l9), some (mI l10), some (mI l11), some (mR l12), some (mR l13), some (mI l14), some (mI l15), some (mI l16), some (mI l17), some (mR l18), some (mI l19), some (mI l20), none, none] [] σ Q := by
  refine mj_iload (k := 15) dL_law_930 rfl ?_
  refine mj_iload (k := 19) dL_law_932 rfl ?_
  refine mj_if_ge (tgt := 941) dL_law_934 (by decide) ⟨fun h => ?_, fun h => ?_⟩
  · replace K := K.1 h
    refine mj_iconst dL_law_941 ⟨by decide, by decide⟩ ?_
    exact K
  · replace K := K.2 h
    refine mj_iconst dL_law_937 ⟨by decide, by decide⟩ ?_
    refine mj_goto (tgt := 942) dL_law_938 (by decide) ?_
    exact K
theorem B_YL_law_922 {kb wb : Nat} {σ : mx_S} {Q : mx_R → Prop} {l0 : Nat} {l1 : Nat} {l2 : Int} {l3 : Int} {l4 : Nat} {l5 : Int} {l6 : Int} {l7 : Nat} {l8 : Nat} {l9 : Int} {l10 : Int} {l11 : Int} {l12 : Nat} {l13 : Nat} {l14 : Int} {l15 : Int} {l16 : Int} {l17 : Int} {l18 : Nat} {l19 : Int} {l20 : Int} {l21 : Int} {l22 : Int} {s0 : Int} (K : mx_J YL_law kb wb 866 [some (mR l0), some (mR l1), some (mI l2), some (mI l3), some (mR l4), some (mI l5), some (mI l6), some (mR l7), some (mR l8), some (mI l9), some (mI l10), some (mI l11), some (mR l12), some (mR l13), some (mI l14), some (mI l15), some (mI l16), some (mI l17), some (mR l18), some (mI s0), some (mI (mx_w (l20 + (1 : Int)))), none, none] [] σ Q) : mx_J YL_law kb wb 922 [some (mR l0), some (mR l1), some (mI l2), some (mI l3), some (mR l4), some (mI l5), some (mI l6), some (mR l7), some (mR l8), some (mI l9), some (mI l10), some (mI l11), some (mR l12), some (mR l13), some (mI l14), some (mI l15), some (mI l16), some (mI l17), some (mR l18), some (mI l19), some (mI l20), some (mI l21), some (mI l22)] [mI s0] σ Q := by
  refine mj_istore (k := 19) (ls' := [some (mR l0), some (mR l1), some (mI l2), some (mI l3), some (mR l4), some (mI l5), some (mI l6), some (mR l7), some (mR l8), some (mI l9), some (mI l10), some (mI l11), some (mR l12), some (mR l13), some (mI l14), some (mI l15), some (mI l16), some (mI l17), some (mR l18), some (mI s0), some (mI l20), some (mI l21), some (mI l22)]) dL_law_922 (by decide) rfl ?_
  refine mj_iinc (k := 20) (ls' := [some (mR l0), some (mR l1), some (mI l2), some (mI l3), some (mR l4), some (mI l5), some (mI l6), some (mR l7), some (mR l8), some (mI l9), some (mI l10), some (mI l11), some (mR l12), some (mR l13), some (mI l14), some (mI l15), some (mI l16), some (mI l17), some (mR l18), some (mI s0), some (mI (mx_w (l20 + (1 : Int)))), some (mI l21), some (mI l22)]) dL_law_924 rfl (by decide) rfl ?_
  refine mj_goto (tgt := 866) dL_law_927 (by decide) ?_
  exact mj_forget (ls' := [some (mR l0), some (mR l1), some (mI l2), some (mI l3), some (mR l4), some (mI l5), some (mI l6), some (mR l7), some (mR l8), some (mI l9), some (mI l10), some (mI l11), some (mR l12), some (mR l13), some (mI l14), some (mI l15), some (mI l16), some (mI l17), some (mR l18), some (mI s0), some (mI (mx_w (l20 + (1 : Int)))), none, none]) ⟨rfl, ⟨rfl, ⟨rfl, ⟨rfl, ⟨rfl, ⟨rfl, ⟨rfl, ⟨rfl, ⟨rfl, ⟨rfl, ⟨rfl, ⟨rfl, ⟨rfl, ⟨rfl, ⟨rfl, ⟨rfl, ⟨rfl, ⟨rfl, ⟨rfl, ⟨rfl, ⟨rfl, trivial⟩⟩⟩⟩⟩⟩⟩⟩⟩⟩⟩⟩⟩⟩⟩⟩⟩⟩⟩⟩⟩ K
theorem B_YL_law_733 {kb wb : Nat} {σ : mx_S} {Q : mx_R → Prop} {l0 : Nat} {l1 : Nat} {l2 : Int} {l3 : Int} {l4 : Nat} {l5 : Int} {l6 : Int} {l7 : Nat} {l8 : Nat} {l9 : Int} {l10 : Int} {l11 : Int} {l12 : Nat} {l13 : Int} {l14 : Int} {l15 : Int} {s0 : Int} (K : mx_J YL_law kb wb 734 [some (mR l0), some (mR l1), some (mI l2), some (mI l3), some (mR l4), some (mI l5), some (mI l6), some (mR l7), some (mR l8), some (mI l9), some (mI l10), some (mI l11), some (mR l12), some (mI l13), some (mI l14), some (mI l15), none, none, none, none, none, none, none] [mI ((0 : Int)), mI s0] σ Q) : mx_J YL_law kb wb 733 [some (mR l0), some (mR l1), some (mI l2), some (mI l3), some (mR l4), some (mI l5), some (mI l6), some (mR l7), some (mR l8), some (mI l9), some (mI l10), some (mI l11), some (mR l12), some (mI l13), some (mI l14), some (mI l15), none, none, none, none, none, none, none] [mI s0] σ Q := by
  refine mj_iconst dL_law_733 ⟨by decide, by decide⟩ ?_
  exact K
theorem B_YL_law_734 {kb wb : Nat} {σ : mx_S} {Q : mx_R → Prop} {l0 : Nat} {l1 : Nat} {l2 : Int} {l3 : Int} {l4 : Nat} {l5 : Int} {l6 : Int} {l7 : Nat} {l8 : Nat} {l9 : Int} {l10 : Int} {l11 : Int} {l12 : Nat} {l13 : Int} {l14 : Int} {l15 : Int} {s0 : Int} {s1 : Int} (K : mx_J YL_law kb wb 546 [some (mR l0), some (mR l1), some (mI (mx_and (s1) (s0))), some (mI l3), some (mR l4), some (mI l5), some (mI l6), some (mR l7), some (mR l8), some (mI l9), some (mI l10), some (mI l11), some (mR l12), some (mI (mx_w (l13 + (1 : Int)))), none, none, none, none, none, none, none, none, none] [] σ Q) : mx_J YL_law kb wb 734 [some (mR l0), some (mR l1), some (mI l2), some (mI l3), some (mR l4), some (mI l5), some (mI l6), some (mR l7), some (mR l8), some (mI l9), some (mI l10), some (mI l11), some (mR l12), some (mI l13), some (mI l14), some (mI l15), none, none, none, none, none, none, none] [mI s0, mI s1] σ Q := by
  refine mj_iand dL_law_734 ?_
  refine mj_istore_n (k := 2) (ls' := [some (mR l0), some (mR l1), some (mI (mx_and (s1) (s0))), some (mI l3), some (mR l4), some (mI l5), some (mI l6), some (mR l7), some (mR l8), some (mI l9), some (mI l10), some (mI l11), some (mR l12), some (mI l13), some (mI l14), some (mI l15), none, none, none, none, none, none, none]) dL_law_735 rfl (by decide) rfl ?_
  refine mj_iinc (k := 13) (ls' := [some (mR l0), some (mR l1), some (mI (mx_and (s1) (s0))), some (mI l3), some (mR l4), some (mI l5), some (mI l6), some (mR l7), some (mR l8), some (mI l9), some (mI l10), some (mI l11), some (mR l12), some (mI (mx_w (l13 + (1 : Int)))), some (mI l14), some (mI l15), none, none, none, none, none, none, none]) dL_law_736 rfl (by decide) rfl ?_
  refine mj_goto (tgt := 546) dL_law_739 (by decide) ?_
  exact mj_forget (ls' := [some (mR l0), some (mR l1), some (mI (mx_and (s1) (s0))), some (mI l3), some (mR l4), some (mI l5), some (mI l6), some (mR l7), some (mR l8), some (mI l9), some (mI l10), some (mI l11), some (mR l12), some (mI (mx_w (l13 + (1 : Int)))), none, none, none, none, none, none, none, none, none]) ⟨rfl, ⟨rfl, ⟨rfl, ⟨rfl, ⟨rfl, ⟨rfl, ⟨rfl, ⟨rfl, ⟨rfl, ⟨rfl, ⟨rfl, ⟨rfl, ⟨rfl, ⟨rfl, trivial⟩⟩⟩⟩⟩⟩⟩⟩⟩⟩⟩⟩⟩⟩ K
theorem B_YL_law_413 {kb wb : Nat} {σ : mx_S} {Q : mx_R → Prop} {l0 : Nat} {l1 : Nat} {l2 : Int} {l3 : Int} {l4 : Nat} {l5 : Int} {l6 : Int} {l7 : Nat} {l8 : Nat} {l9 : Int} {l10 : Int} {l11 : Int} {l12 : Int} {l13 : Int} {l14 : Nat} {l15 : Int} {l16 : Int} {l17 : Int} {s0 : Int} (K : (l17 = (0 : Int) → (¬ s0 = (0 : Int) → mx_J YL_law kb wb 465 [some (mR l0), some (mR l1), some (mI l2), some (mI l3), some (mR l4), some (mI l5), some (mI l6), some (mR l7), some (mR l8), some (mI l9), some (mI l10), some (mI l11), some (mI l12), some (mI l13), some (mR l14), some (mI l15), some (mI l16), some (mI l17), some (mI s0), none, none, none, none] [mI ((0 : Int))] σ Q) ∧ (¬ (¬ s0 = (0 : Int)) → ∃ (kd n1 : Nat) (f : Nat → mx_V), sH σ (l4) = some (.inr (kd, n1, f)) ∧ 2 ≤ kd ∧ 0 ≤ l10 ∧ l10 < (n1 : Int) ∧ ∃ x2, f (l10).toNat = mR x2 ∧ ∃ (n3 : Nat) (f : Nat → mx_V), sH σ (x2) = some (.inr (1, n3, f)) ∧ 0 ≤ mx_w (l11 + l16) ∧ mx_w (l11 + l16) < (n3 : Int) ∧ ∃ x4, f (mx_w (l11 + l16)).toNat = mI x4 ∧ ∃ (n5 : Nat) (f : Nat → mx_V), sH σ (l14) = some (.inr (1, n5, f)) ∧ 0 ≤ mx_w (l15 + l16) ∧ mx_w (l15 + l16) < (n5 : Int) ∧ ∃ x6, f (mx_w (l15 + l16)).toNat = mI x6 ∧ (x6 ≤ x4 → mx_J YL_law kb wb 465 [some (mR l0), some (mR l1), some (mI l2), some (mI l3), some (mR l4), some (mI l5), some (mI l6), some (mR l7), some (mR l8), some (mI l9), some (mI l10), some (mI l11), some (mI l12), some (mI l13), some (mR l14), some (mI l15), some (mI l16), some (mI l17), some (mI s0), none, none, none, none] [mI ((0 : Int))] σ Q) ∧ (¬ (x6 ≤ x4) → mx_J YL_law kb wb 465 [some (mR l0), some (mR l1), some (mI l2), some (mI l3), some (mR l4), some (mI l5), some (mI l6), some (mR l7), some (mR l8), some (mI l9), some (mI l10), some (mI l11), some (mI l12), some (mI l13), some (mR l14), some (mI l15), some (mI l16), some (mI l17), some (mI s0), none, none, none, none] [mI ((1 : Int))] σ Q))) ∧ (¬ (l17 = (0 : Int)) → (¬ s0 = (0 : Int) → mx_J YL_law kb wb 465 [some (mR l0), some (mR l1), some (mI l2), some (mI l3), some (mR l4), some (mI l5), some (mI l6), some (mR l7), some (mR l8), some (mI l9), some (mI l10), some (mI l11), some (mI l12), some (mI l13), some (mR l14), some (mI l15), some (mI l16), some (mI l17), some (mI s0), none, none, none, none] [mI ((0 : Int))] σ Q) ∧ (¬ (¬ s0 = (0 : Int)) → mx_J YL_law kb wb 465 [some (mR l0), some (mR l1), some (mI l2), some (mI l3), some (mR l4), some (mI l5), some (mI l6), some (mR l7), some (mR l8), some (mI l9), some (mI l10), some (mI l11), some (mI l12), some (mI l13), some (mR l14), some (mI l15), some (mI l16), some (mI l17), some (mI s0), none, none, none, none] [mI ((1 : Int))] σ Q))) : mx_J YL_law kb wb 413 [some (mR l0), some (mR l1), some (mI l2), some (mI l3), some (mR l4), some (mI l5), some (mI l6), some (mR l7), some (mR l8), some (mI l9), some (mI l10), some (mI l11), some (mI l12), some (mI l13), some (mR l14), some (mI l15), some (mI l16), some (mI l17), none, none, none, none, none] [mI s0] σ Q := by
  refine mj_istore (k := 18) (ls' := [some (mR l0), some (mR l1), some (mI l2), some (mI l3), some (mR l4), some (mI l5), some (mI l6), some (mR l7), some (mR l8), some (mI l9), some (mI l10), some (mI l11), some (mI l12), some (mI l13), some (mR l14), some (mI l15), some (mI l16), some (mI l17), some (mI s0), none, none, none, none]) dL_law_413 (by decide) rfl ?_
  refine mj_iload (k := 17) dL_law_415 rfl ?_
  refine mj_if_eq (tgt := 433) dL_law_417 (by decide) ⟨fun h => ?_, fun h => ?_⟩
  · replace K := K.1 h
    refine mj_iload (k := 18) dL_law_433 rfl ?_
    refine mj_if_ne (tgt := 464) dL_law_435 (by decide) ⟨fun h => ?_, fun h => ?_⟩
    · replace K := K.1 h
      refine mj_iconst dL_law_464 ⟨by decide, by decide⟩ ?_
      exact K
    · replace K := K.2 h
      refine mj_aload (k := 4) dL_law_438 rfl ?_
      refine mj_iload (k := 10) dL_law_440 rfl ?_
      obtain ⟨kd, n1, fn1, hfn1, hrn1, h0n1, h1n1, x2, hxx2, K⟩ := K
      refine mj_aald dL_law_442 hfn1 hrn1 h0n1 h1n1 ?_
      rw [hxx2]
      refine mj_iload (k := 11) dL_law_443 rfl ?_
      refine mj_iload (k := 16) dL_law_445 rfl ?_
      refine mj_iadd dL_law_447 ?_
      obtain ⟨n3, fn3, hfn3, h0n3, h1n3, x4, hxx4, K⟩ := K
      refine mj_cald dL_law_448 hfn3 h0n3 h1n3 ?_
      rw [hxx4]
      refine mj_aload (k := 14) dL_law_449 rfl ?_
      refine mj_iload (k := 15) dL_law_451 rfl ?_
      refine mj_iload (k := 16) dL_law_453 rfl ?_
      refine mj_iadd dL_law_455 ?_
      obtain ⟨n5, fn5, hfn5, h0n5, h1n5, x6, hxx6, K⟩ := K
      refine mj_cald dL_law_456 hfn5 h0n5 h1n5 ?_
      rw [hxx6]
      refine mj_icmp_ge (tgt := 464) dL_law_457 (by decide) ⟨fun h => ?_, fun h => ?_⟩
      · replace K := K.1 h
        refine mj_iconst dL_law_464 ⟨by decide, by decide⟩ ?_
        exact K
      · replace K := K.2 h
        refine mj_iconst dL_law_460 ⟨by decide, by decide⟩ ?_
        refine mj_goto (tgt := 465) dL_law_461 (by decide) ?_
        exact K
  · replace K := K.2 h
    refine mj_iload (k := 18) dL_law_420 rfl ?_
    refine mj_if_ne (tgt := 429) dL_law_422 (by decide) ⟨fun h => ?_, fun h => ?_⟩
    · replace K := K.1 h
      refine mj_iconst dL_law_429 ⟨by decide, by decide⟩ ?_
      refine mj_goto (tgt := 465) dL_law_430 (by decide) ?_
      exact K
    · replace K := K.2 h
      refine mj_iconst dL_law_425 ⟨by decide, by decide⟩ ?_
      refine mj_goto (tgt := 465) dL_law_426 (by decide) ?_
      exact K
theorem B_YL_law_1087 {kb wb : Nat} {σ : mx_S} {Q : mx_R → Prop} {l0 : Nat} {l1 : Nat} {l2 : Int} {l3 : Int} {l4 : Nat} {l5 : Int} {l6 : Int} {l7 : Nat} {l8 : Nat} {l9 : Int} {l10 : Int} {l11 : Int} {l12 : Nat} {l13 : Nat} {l14 : Int} {l15 : Int} {l16 : Int} {l17 : Int} {s0 : Int} {s1 : Int} (K : (l17 = (0 : Int) → mx_J YL_law kb wb 1101 [some (mR l0), some (mR l1), some (mI (mx_and (s1) (s0))), some (mI l3), some (mR l4), some (mI l5), some (mI l6), some (mR l7), some (mR l8), some (mI l9), some (mI l10), some (mI l11), some (mR l12), some (mR l13), some (mI l14), some (mI l15), some (mI l16), some (mI l17), none, none, none, none, none] [mI ((0 : Int)), mI l14] σ Q) ∧ (¬ (l17 = (0 : Int)) → mx_J YL_law kb wb 1101 [some (mR l0), some (mR l1), some (mI (mx_and (s1) (s0))), some (mI l3), some (mR l4), some (mI l5), some (mI l6), some (mR l7), some (mR l8), some (mI l9), some (mI l10), some (mI l11), some (mR l12), some (mR l13), some (mI l14), some (mI l15), some (mI l16), some (mI l17), none, none, none, none, none] [mI ((1 : Int)), mI l14] σ Q)) : mx_J YL_law kb wb 1087 [some (mR l0), some (mR l1), some (mI l2), some (mI l3), some (mR l4), some (mI l5), some (mI l6), some (mR l7), some (mR l8), some (mI l9), some (mI l10), some (mI l11), some (mR l12), some (mR l13), some (mI l14), some (mI l15), some (mI l16), some (mI l17), none, none, none, none, none] [mI s0, mI s1] σ Q := by
  refine mj_iand dL_law_1087 ?_
  refine mj_istore_n (k := 2) (ls' := [some (mR l0), some (mR l1), some (mI (mx_and (s1) (s0))), some (mI l3), some (mR l4), some (mI l5), some (mI l6), some (mR l7), some (mR l8), some (mI l9), some (mI l10), some (mI l11), some (mR l12), some (mR l13), some (mI l14), some (mI l15), some (mI l16), some (mI l17), none, none, none, none, none]) dL_law_1088 rfl (by decide) rfl ?_
  refine mj_iload (k := 14) dL_law_1089 rfl ?_
  refine mj_iload (k := 17) dL_law_1091 rfl ?_
  refine mj_if_eq (tgt := 1100) dL_law_1093 (by decide) ⟨fun h => ?_, fun h => ?_⟩
  · replace K := K.1 h
    refine mj_iconst dL_law_1100 ⟨by decide, by decide⟩ ?_
    exact K
  · replace K := K.2 h
    refine mj_iconst dL_law_1096 ⟨by decide, by decide⟩ ?_
    refine mj_goto (tgt := 1101) dL_law_1097 (by decide) ?_
    exact K
theorem B_YL_law_942 {kb wb : Nat} {σ : mx_S} {Q : mx_R → Prop} {l0 : Nat} {l1 : Nat} {l2 : Int} {l3 : Int} {l4 : Nat} {l5 : Int} {l6 : Int} {l7 : Nat} {l8 : Nat} {l9 : Int} {l10 : Int} {l11 : Int} {l12 : Nat} {l13 : Nat} {l14 : Int} {l15 : Int} {l16 : Int} {l17 : Int} {l18 : Nat} {l19 : Int} {l20 : Int} {s0 : Int} {s1 : Int} (K : ((0 : Int) < l19 → mx_J YL_law kb wb 957 [some (mR l0), some (mR l1), some (mI l2), some (mI l3), some (mR l4), some (mI l5), some (mI l6), some (mR l7), some (mR l8), some (mI l9), some (mI l10), some (mI l11), some (mR l12), some (mR l13), some (mI l14), some (mI (mx_w (s1 + s0))), some (mI l16), some (mI l17), some (mR l18), some (mI l19), some (mI l20), none, none] [mI ((0 : Int)), mI l16] σ Q) ∧ (¬ ((0 : Int) < l19) → mx_J YL_law kb wb 957 [some (mR l0), some (mR l1), some (mI l2), some (mI l3), some (mR l4), some (mI l5), some (mI l6), some (mR l7), some (mR l8), some (mI l9), some (mI l10), some (mI l11), some (mR l12), some (mR l13), some (mI l14), some (mI (mx_w (s1 + s0))), some (mI l16), some (mI l17), some (mR l18), some (mI l19), some (mI l20), none, none] [mI ((1 : Int)), mI l16] σ Q)) : mx_J YL_law kb wb 942 [some (mR l0), some (mR l1), some (mI l2), some (mI l3), some (mR l4), some (mI l5), some (mI l6), some (mR l7), some (mR l8), some (mI l9), some (mI l10), some (mI l11), some (mR l12), some (mR l13), some (mI l14), some (mI l15), some (mI l16), some (mI l17), some (mR l18), some (mI l19), some (mI l20), none, none] [mI s0, mI s1] σ Q := by
  refine mj_iadd dL_law_942 ?_
  refine mj_istore (k := 15) (ls' := [some (mR l0), some (mR l1), some (mI l2), some (mI l3), some (mR l4), some (mI l5), some (mI l6), some (mR l7), some (mR l8), some (mI l9), some (mI l10), some (mI l11), some (mR l12), some (mR l13), some (mI l14), some (mI (mx_w (s1 + s0))), some (mI l16), some (mI l17), some (mR l18), some (mI l19), some (mI l20), none, none]) dL_law_943 (by decide) rfl ?_
  refine mj_iload (k := 16) dL_law_945 rfl ?_
  refine mj_iload (k := 19) dL_law_947 rfl ?_
  refine mj_if_gt (tgt := 956) dL_law_949 (by decide) ⟨fun h => ?_, fun h => ?_⟩
  · replace K := K.1 h
    refine mj_iconst dL_law_956 ⟨by decide, by decide⟩ ?_
    exact K
  · replace K := K.2 h
    refine mj_iconst dL_law_952 ⟨by decide, by decide⟩ ?_
    refine mj_goto (tgt := 957) dL_law_953 (by decide) ?_
    exact K
theorem B_YL_law_465 {kb wb : Nat} {σ : mx_S} {Q : mx_R → Prop} {l0 : Nat} {l1 : Nat} {l2 : Int} {l3 : Int} {l4 : Nat} {l5 : Int} {l6 : Int} {l7 : Nat} {l8 : Nat} {l9 : Int} {l10 : Int} {l11 : Int} {l12 : Int} {l13 : Int} {l14 : Nat} {l15 : Int} {l16 : Int} {l17 : Int} {l18 : Int} {s0 : Int} (K : (s0 = (0 : Int) → mx_J YL_law kb wb 499 [some (mR l0), some (mR l1), some (mI l2), some (mI l3), some (mR l4), some (mI l5), some (mI l6), some (mR l7), some (mR l8), some (mI l9), some (mI l10), some (mI l11), some (mI l12), some (mI s0), some (mR l14), some (mI l15), some (mI l16), some (mI l17), some (mI l18), none, none, none, none] [] σ Q) ∧ (¬ (s0 = (0 : Int)) → ∃ (n1 : Nat) (f : Nat → mx_V), sH σ (l7) = some (.inr (0, n1, f)) ∧ 0 ≤ mx_w (l12 - (1 : Int)) ∧ mx_w (l12 - (1 : Int)) < (n1 : Int) ∧ ∃ x2, f (mx_w (l12 - (1 : Int))).toNat = mI x2 ∧ ∃ (n3 : Nat) (f : Nat → mx_V), sH σ (l7) = some (.inr (0, n3, f)) ∧ sB σ ≤ l7 ∧ 0 ≤ l12 ∧ l12 < (n3 : Int) ∧ ∀ σ4, σ4 = mx_wr σ (l7) (.inr (0, n3, upV f (l12).toNat (mI x2))) → ∃ (n5 : Nat) (f : Nat → mx_V), sH σ4 (l8) = some (.inr (0, n5, f)) ∧ 0 ≤ mx_w (l12 - (1 : Int)) ∧ mx_w (l12 - (1 : Int)) < (n5 : Int) ∧ ∃ x6, f (mx_w (l12 - (1 : Int))).toNat = mI x6 ∧ ∃ (n7 : Nat) (f : Nat → mx_V), sH σ4 (l8) = some (.inr (0, n7, f)) ∧ sB σ4 ≤ l8 ∧ 0 ≤ l12 ∧ l12 < (n7 : Int) ∧ ∀ σ8, σ8 = mx_wr σ4 (l8) (.inr (0, n7, upV f (l12).toNat (mI x6))) → mx_J YL_law kb wb 499 [some (mR l0), some (mR l1), some (mI l2), some (mI l3), some (mR l4), some (mI l5), some (mI l6), some (mR l7), some (mR l8), some (mI l9), some (mI l10), some (mI l11), some (mI (mx_w (l12 + (-1 : Int)))), some (mI s0), some (mR l14), some (mI l15), some (mI l16), some (mI l17), some (mI l18), none, none, none, none] [] σ8 Q)) : mx_J YL_law kb wb 465 [some (mR l0), some (mR l1), some (mI l2), some (mI l3), some (mR l4), some (mI l5), some (mI l6), some (mR l7), some (mR l8), some (mI l9), some (mI l10), some (mI l11), some (mI l12), some (mI l13), some (mR l14), some (mI l15), some (mI l16), some (mI l17), some (mI l18), none, none, none, none] [mI s0] σ Q := by
  refine mj_istore (k := 13) (ls' := [some (mR l0), some (mR l1), some (mI l2), some (mI l3), some (mR l4), some (mI l5), some (mI l6), some (mR l7), some (mR l8), some (mI l9), some (mI l10), some (mI l11), some (mI l12), some (mI s0), some (mR l14), some (mI l15), some (mI l16), some (mI l17), some (mI l18), none, none, none, none]) dL_law_465 (by decide) rfl ?_
  refine mj_iload (k := 13) dL_law_467 rfl ?_
  refine mj_if_eq (tgt := 499) dL_law_469 (by decide) ⟨fun h => ?_, fun h => ?_⟩
  · replace K := K.1 h
    exact K
  · replace K := K.2 h
    refine mj_aload (k := 7) dL_law_472 rfl ?_
    refine mj_iload (k := 12) dL_law_474 rfl ?_
    refine mj_aload (k := 7) dL_law_476 rfl ?_
    refine mj_iload (k := 12) dL_law_478 rfl ?_
    refine mj_iconst dL_law_480 ⟨by decide, by decide⟩ ?_
    refine mj_isub dL_law_481 ?_
    obtain ⟨n1, fn1, hfn1, h0n1, h1n1, x2, hxx2, K⟩ := K
    refine mj_iald dL_law_482 hfn1 h0n1 h1n1 ?_
    rw [hxx2]
    obtain ⟨n3, fn3, hfn3, hbn3, h0n3, h1n3, K⟩ := K
    replace K := K _ rfl
    refine mj_iast dL_law_483 hfn3 hbn3 h0n3 h1n3 ?_
    generalize mx_wr σ (l7) (.inr (0, n3, upV fn3 (l12).toNat (mI x2))) = σ4 at K ⊢
    refine mj_aload (k := 8) dL_law_484 rfl ?_
    refine mj_iload (k := 12) dL_law_486 rfl ?_
    refine mj_aload (k := 8) dL_law_488 rfl ?_
    refine mj_iload (k := 12) dL_law_490 rfl ?_
    refine mj_iconst dL_law_492 ⟨by decide, by decide⟩ ?_
    refine mj_isub dL_law_493 ?_
    obtain ⟨n5, fn5, hfn5, h0n5, h1n5, x6, hxx6, K⟩ := K
    refine mj_iald dL_law_494 hfn5 h0n5 h1n5 ?_
    rw [hxx6]
    obtain ⟨n7, fn7, hfn7, hbn7, h0n7, h1n7, K⟩ := K
    replace K := K _ rfl
    refine mj_iast dL_law_495 hfn7 hbn7 h0n7 h1n7 ?_
    generalize mx_wr σ4 (l8) (.inr (0, n7, upV fn7 (l12).toNat (mI x6))) = σ8 at K ⊢
    refine mj_iinc (k := 12) (ls' := [some (mR l0), some (mR l1), some (mI l2), some (mI l3), some (mR l4), some (mI l5), some (mI l6), some (mR l7), some (mR l8), some (mI l9), some (mI l10), some (mI l11), some (mI (mx_w (l12 + (-1 : Int)))), some (mI s0), some (mR l14), some (mI l15), some (mI l16), some (mI l17), some (mI l18), none, none, none, none]) dL_law_496 rfl (by decide) rfl ?_
    exact K
theorem B_YL_law_1101 {kb wb : Nat} {σ : mx_S} {Q : mx_R → Prop} {l0 : Nat} {l1 : Nat} {l2 : Int} {l3 : Int} {l4 : Nat} {l5 : Int} {l6 : Int} {l7 : Nat} {l8 : Nat} {l9 : Int} {l10 : Int} {l11 : Int} {l12 : Nat} {l13 : Nat} {l14 : Int} {l15 : Int} {l16 : Int} {l17 : Int} {s0 : Int} {s1 : Int} (K : mx_J YL_law kb wb 1023 [some (mR l0), some (mR l1), some (mI l2), some (mI l3), some (mR l4), some (mI l5), some (mI l6), some (mR l7), some (mR l8), some (mI l9), some (mI l10), some (mI l11), some (mR l12), some (mR l13), some (mI (mx_w (s1 + s0))), some (mI l15), some (mI (mx_w (l16 + (1 : Int)))), none, none, none, none, none, none] [] σ Q) : mx_J YL_law kb wb 1101 [some (mR l0), some (mR l1), some (mI l2), some (mI l3), some (mR l4), some (mI l5), some (mI l6), some (mR l7), some (mR l8), some (mI l9), some (mI l10), some (mI l11), some (mR l12), some (mR l13), some (mI l14), some (mI l15), some (mI l16), some (mI l17), none, none, none, none, none] [mI s0, mI s1] σ Q := by
  refine mj_iadd dL_law_1101 ?_
  refine mj_istore (k := 14) (ls' := [some (mR l0), some (mR l1), some (mI l2), some (mI l3), some (mR l4), some (mI l5), some (mI l6), some (mR l7), some (mR l8), some (mI l9), some (mI l10), some (mI l11), some (mR l12), some (mR l13), some (mI (mx_w (s1 + s0))), some (mI l15), some (mI l16), some (mI l17), none, none, none, none, none]) dL_law_1102 (by decide) rfl ?_
  refine mj_iinc (k := 16) (ls' := [some (mR l0), some (mR l1), some (mI l2), some (mI l3), some (mR l4), some (mI l5), some (mI l6), some (mR l7), some (mR l8), some (mI l9), some (mI l10), some (mI l11), some (mR l12), some (mR l13), some (mI (mx_w (s1 + s0))), some (mI l15), some (mI (mx_w (l16 + (1 : Int)))), some (mI l17), none, none, none, none, none]) dL_law_1104 rfl (by decide) rfl ?_
  refine mj_goto (tgt := 1023) dL_law_1107 (by decide) ?_
  exact mj_forget (ls' := [some (mR l0), some (mR l1), some (mI l2), some (mI l3), some (mR l4), some (mI l5), some (mI l6), some (mR l7), some (mR l8), some (mI l9), some (mI l10), some (mI l11), some (mR l12), some (mR l13), some (mI (mx_w (s1 + s0))), some (mI l15), some (mI (mx_w (l16 + (1 : Int)))), none, none, none, none, none, none]) ⟨rfl, ⟨rfl, ⟨rfl, ⟨rfl, ⟨rfl, ⟨rfl, ⟨rfl, ⟨rfl, ⟨rfl, ⟨rfl, ⟨rfl, ⟨rfl, ⟨rfl, ⟨rfl, ⟨rfl, ⟨rfl, ⟨rfl, trivial⟩⟩⟩⟩⟩⟩⟩⟩⟩⟩⟩⟩⟩⟩⟩⟩⟩ K
theorem B_YL_law_957 {kb wb : Nat} {σ : mx_S} {Q : mx_R → Prop} {l0 : Nat} {l1 : Nat} {l2 : Int} {l3 : Int} {l4 : Nat} {l5 : Int} {l6 : Int} {l7 : Nat} {l8 : Nat} {l9 : Int} {l10 : Int} {l11 : Int} {l12 : Nat} {l13 : Nat} {l14 : Int} {l15 : Int} {l16 : Int} {l17 : Int} {l18 : Nat} {l19 : Int} {l20 : Int} {s0 : Int} {s1 : Int} (K : mx_J YL_law kb wb 843 [some (mR l0), some (mR l1), some (mI l2), some (mI l3), some (mR l4), some (mI l5), some (mI l6), some (mR l7), some (mR l8), some (mI l9), some (mI l10), some (mI l11), some (mR l12), some (mR l13), some (mI l14), some (mI l15), some (mI (mx_w (s1 + s0))), some (mI (mx_w (l17 + (1 : Int)))), none, none, none, none, none] [] σ Q) : mx_J YL_law kb wb 957 [some (mR l0), some (mR l1), some (mI l2), some (mI l3), some (mR l4), some (mI l5), some (mI l6), some (mR l7), some (mR l8), some (mI l9), some (mI l10), some (mI l11), some (mR l12), some (mR l13), some (mI l14), some (mI l15), some (mI l16), some (mI l17), some (mR l18), some (mI l19), some (mI l20), none, none] [mI s0, mI s1] σ Q := by
  refine mj_iadd dL_law_957 ?_
  refine mj_istore (k := 16) (ls' := [some (mR l0), some (mR l1), some (mI l2), some (mI l3), some (mR l4), some (mI l5), some (mI l6), some (mR l7), some (mR l8), some (mI l9), some (mI l10), some (mI l11), some (mR l12), some (mR l13), some (mI l14), some (mI l15), some (mI (mx_w (s1 + s0))), some (mI l17), some (mR l18), some (mI l19), some (mI l20), none, none]) dL_law_958 (by decide) rfl ?_
  refine mj_iinc (k := 17) (ls' := [some (mR l0), some (mR l1), some (mI l2), some (mI l3), some (mR l4), some (mI l5), some (mI l6), some (mR l7), some (mR l8), some (mI l9), some (mI l10), some (mI l11), some (mR l12), some (mR l13), some (mI l14), some (mI l15), some (mI (mx_w (s1 + s0))), some (mI (mx_w (l17 + (1 : Int)))), some (mR l18), some (mI l19), some (mI l20), none, none]) dL_law_960 rfl (by decide) rfl ?_
  refine mj_goto (tgt := 843) dL_law_963 (by decide) ?_
  exact mj_forget (ls' := [some (mR l0), some (mR l1), some (mI l2), some (mI l3), some (mR l4), some (mI l5), some (mI l6), some (mR l7), some (mR l8), some (mI l9), some (mI l10), some (mI l11), some (mR l12), some (mR l13), some (mI l14), some (mI l15), some (mI (mx_w (s1 + s0))), some (mI (mx_w (l17 + (1 : Int)))), none, none, none, none, none]) ⟨rfl, ⟨rfl, ⟨rfl, ⟨rfl, ⟨rfl, ⟨rfl, ⟨rfl, ⟨rfl, ⟨rfl, ⟨rfl, ⟨rfl, ⟨rfl, ⟨rfl, ⟨rfl, ⟨rfl, ⟨rfl, ⟨rfl, ⟨rfl, trivial⟩⟩⟩⟩⟩⟩⟩⟩⟩⟩⟩⟩⟩⟩⟩⟩⟩⟩ K
theorem B_YL_law_499 {kb wb : Nat} {σ : mx_S} {Q : mx_R → Prop} {l0 : Nat} {l1 : Nat} {l2 : Int} {l3 : Int} {l4 : Nat} {l5 : Int} {l6 : Int} {l7 : Nat} {l8 : Nat} {l9 : Int} {l10 : Int} {l11 : Int} {l12 : Int} {l13 : Int} {l14 : Nat} {l15 : Int} {l16 : Int} {l17 : Int} {l18 : Int} (K : mx_J YL_law kb wb 289 [some (mR l0), some (mR l1), some (mI l2), some (mI l3), some (mR l4), some (mI l5), some (mI l6), some (mR l7), some (mR l8), some (mI l9), some (mI l10), some (mI l11), some (mI l12), some (mI l13), none, none, none, none, none, none, none, none, none] [] σ Q) : mx_J YL_law kb wb 499 [some (mR l0), some (mR l1), some (mI l2), some (mI l3), some (mR l4), some (mI l5), some (mI l6), some (mR l7), some (mR l8), some (mI l9), some (mI l10), some (mI l11), some (mI l12), some (mI l13), some (mR l14), some (mI l15), some (mI l16), some (mI l17), some (mI l18), none, none, none, none] [] σ Q := by
  refine mj_goto (tgt := 289) dL_law_499 (by decide) ?_
  exact mj_forget (ls' := [some (mR l0), some (mR l1), some (mI l2), some (mI l3), some (mR l4), some (mI l5), some (mI l6), some (mR l7), some (mR l8), some (mI l9), some (mI l10), some (mI l11), some (mI l12), some (mI l13), none, none, none, none, none, none, none, none, none]) ⟨rfl, ⟨rfl, ⟨rfl, ⟨rfl, ⟨rfl, ⟨rfl, ⟨rfl, ⟨rfl, ⟨rfl, ⟨rfl, ⟨rfl, ⟨rfl, ⟨rfl, ⟨rfl, trivial⟩⟩⟩⟩⟩⟩⟩⟩⟩⟩⟩⟩⟩⟩ K
