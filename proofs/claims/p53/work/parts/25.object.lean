/-! The object: a new one. -/
theorem of_wr {s s' : mx_S} {a q : Nat} {e : mx_E} (h : s' = mx_wr s a e) (hq : q ≠ a) : sH s' q = sH s q := by
  rw [h]
  exact wr_ne hq
theorem of_wrA {s s' : mx_S} {a : Nat} {e : mx_E} (h : s' = mx_wr s a e) : sH s' a = some e := by
  rw [h]
  exact wr_at
theorem of_al {s s' : mx_S} {q w : Nat} {e : mx_E} (h : s' = mx_al s e w) (hq : q < sN s) : sH s' q = sH s q := by
  rw [h]
  exact al_ne (Nat.ne_of_lt hq)
theorem of_alA {s s' : mx_S} {q w : Nat} {e : mx_E} (h : s' = mx_al s e w) (hq : sN s = q) : sH s' q = some e := by
  rw [h, ← hq]
  exact al_at
theorem of_fa {s s' : mx_S} {q w lo : Nat} {e : mx_E} (h : s' = mx_al s e w) (hq : lo ≤ sN s) : fa lo 1 w s s' := by
  rw [h]
  exact fa.al hq
theorem of_fw {s s' : mx_S} {lo : Nat} {e : mx_E} (h : s' = mx_wr s lo e) : fa lo 0 0 s s' := by
  rw [h]
  exact fa.wr (Nat.le_refl _)
theorem ar1 {o q k : Nat} (h : o + k ≤ q) (hk : 0 < k) : q ≠ o := by omega
theorem ar2 {o q a b : Nat} (h : q < o + a) (e : a ≤ b) : q < o + b := by omega
theorem ar3 {o q k : Nat} (h : o + k ≤ q) (hk : 0 < k) : o < q := by omega
theorem ar4 {a b c d x n : Nat} (h : a = x + c) (g : b = x + d) (e : c + n ≤ d) : a + n ≤ b := by omega
theorem ar5 {o b x a : Nat} (h : x = b) (g : b ≤ o) : x ≤ o + a := by omega
theorem ar6 {o b x : Nat} (h : x = b) (g : b ≤ o) : x ≤ o := by omega
theorem ar7 {o k : Nat} (h : 0 < k) : o < o + k := by omega
theorem fa_sB {lo n w : Nat} {s t : mx_S} (h : fa lo n w s t) : sB t = sB s := h.1
set_option maxHeartbeats 16000000 in
theorem c10_init {σ : mx_S} {o : Nat} (h : sH σ o = some (.inl (10, [mN, mN, mN, mN, mN, mN, mN, mI 0]))) (hn : sN σ = o + 1) (hb : sB σ ≤ o) : ∃ σ' : mx_S, isO σ' o R0 H0 ∧ fa o 220 32957 σ σ' ∧ mx_MS Y10_init [mR o] σ (.inl (none, σ')) := by
  obtain ⟨ar, ear⟩ : ∃ s, s = mx_al σ (.inl (6, [mN, mI 0])) 2 := ⟨_, rfl⟩
  have Far : fa (o + 1) 1 2 σ ar := of_fa (q := 0) ear (Nat.le_of_eq hn.symm)
  have nar : sN ar = o + 1 + 1 := by rw [Far.2.1, hn]
  obtain ⟨ir, pir, Fir, mr⟩ := c6_init (of_alA ear hn) nar (ar5 (fa_sB Far) hb)
  have nir : sN ir = o + 3 := by rw [Fir.2.1, nar]
  have ur : ∀ q, q < o + 1 → sH ir q = sH σ q := fun q hq => (Fir.2.2.2.2 q hq).trans (Far.2.2.2.2 q hq)
  have wir : sH ir o = _ := (ur o (ar7 (by decide))).trans h
  obtain ⟨br, ebr⟩ : ∃ s, s = mx_wr ir o (.inl (10, [mR (o + 1), mN, mN, mN, mN, mN, mN, mI 0])) := ⟨_, rfl⟩
  have Fbr : fa o 0 0 ir br := of_fw ebr
  have nbr : sN br = o + 3 := by rw [Fbr.2.1, nir]
  have wbr : sH br o = some (.inl (10, [mR (o + 1), mN, mN, mN, mN, mN, mN, mI 0])) := of_wrA ebr
  have FFr : fa o 2 22 σ br := ((fa.rf (lo := o).tr Far (Nat.le_add_right _ _) rfl rfl).tr Fir (Nat.le_add_right _ _) rfl rfl).tr Fbr (Nat.le_refl _) rfl rfl
  obtain ⟨ah, eah⟩ : ∃ s, s = mx_al br (.inl (2, [mN, mN, mN, mN, mN, mI 0, mI 0])) 7 := ⟨_, rfl⟩
  have Fah : fa (o + 3) 1 7 br ah := of_fa (q := 0) eah (Nat.le_of_eq nbr.symm)
  have nah : sN ah = o + 3 + 1 := by rw [Fah.2.1, nbr]
  obtain ⟨ih, pih, Fih, mh⟩ := c2_init (of_alA eah nbr) nah (ar5 ((fa_sB Fah).trans (fa_sB FFr)) hb)
  have nih : sN ih = o + 85 := by rw [Fih.2.1, nah]
  have uh : ∀ q, q < o + 3 → sH ih q = sH br q := fun q hq => (Fih.2.2.2.2 q hq).trans (Fah.2.2.2.2 q hq)
  have wih : sH ih o = _ := (uh o (ar7 (by decide))).trans wbr
  obtain ⟨bh, ebh⟩ : ∃ s, s = mx_wr ih o (.inl (10, [mR (o + 1), mR (o + 3), mN, mN, mN, mN, mN, mI 0])) := ⟨_, rfl⟩
  have Fbh : fa o 0 0 ih bh := of_fw ebh
  have nbh : sN bh = o + 85 := by rw [Fbh.2.1, nih]
  have wbh : sH bh o = some (.inl (10, [mR (o + 1), mR (o + 3), mN, mN, mN, mN, mN, mI 0])) := of_wrA ebh
  have FFh : fa o 84 15486 σ bh := ((FFr.tr Fah (Nat.le_add_right _ _) rfl rfl).tr Fih (Nat.le_add_right _ _) rfl rfl).tr Fbh (Nat.le_refl _) rfl rfl
  obtain ⟨ak, eak⟩ : ∃ s, s = mx_al bh (.inl (2, [mN, mN, mN, mN, mN, mI 0, mI 0])) 7 := ⟨_, rfl⟩
  have Fak : fa (o + 85) 1 7 bh ak := of_fa (q := 0) eak (Nat.le_of_eq nbh.symm)
  have nak : sN ak = o + 85 + 1 := by rw [Fak.2.1, nbh]
  obtain ⟨ik, pik, Fik, mk⟩ := c2_init (of_alA eak nbh) nak (ar5 ((fa_sB Fak).trans (fa_sB FFh)) hb)
  have nik : sN ik = o + 167 := by rw [Fik.2.1, nak]
  have uk : ∀ q, q < o + 85 → sH ik q = sH bh q := fun q hq => (Fik.2.2.2.2 q hq).trans (Fak.2.2.2.2 q hq)
  have wik : sH ik o = _ := (uk o (ar7 (by decide))).trans wbh
  obtain ⟨bk, ebk⟩ : ∃ s, s = mx_wr ik o (.inl (10, [mR (o + 1), mR (o + 3), mR (o + 85), mN, mN, mN, mN, mI 0])) := ⟨_, rfl⟩
  have Fbk : fa o 0 0 ik bk := of_fw ebk
  have nbk : sN bk = o + 167 := by rw [Fbk.2.1, nik]
  have wbk : sH bk o = some (.inl (10, [mR (o + 1), mR (o + 3), mR (o + 85), mN, mN, mN, mN, mI 0])) := of_wrA ebk
  have FFk : fa o 166 30950 σ bk := ((FFh.tr Fak (Nat.le_add_right _ _) rfl rfl).tr Fik (Nat.le_add_right _ _) rfl rfl).tr Fbk (Nat.le_refl _) rfl rfl
  obtain ⟨ag, eag⟩ : ∃ s, s = mx_al bk (.inl (5, [mN, mN, mI 0, mI 0, mI 0, mI 0])) 6 := ⟨_, rfl⟩
  have Fag : fa (o + 167) 1 6 bk ag := of_fa (q := 0) eag (Nat.le_of_eq nbk.symm)
  have nag : sN ag = o + 167 + 1 := by rw [Fag.2.1, nbk]
  obtain ⟨ig, Fig, mg⟩ := c5_init (of_alA eag nbk) nag (ar5 ((fa_sB Fag).trans (fa_sB FFk)) hb)
  have nig : sN ig = o + 170 := by rw [Fig.2.1, nag]
  have ug : ∀ q, q < o + 167 → sH ig q = sH bk q := fun q hq => (Fig.2.2.2.2 q hq).trans (Fag.2.2.2.2 q hq)
  have wig : sH ig o = _ := (ug o (ar7 (by decide))).trans wbk
  obtain ⟨bg, ebg⟩ : ∃ s, s = mx_wr ig o (.inl (10, [mR (o + 1), mR (o + 3), mR (o + 85), mR (o + 167), mN, mN, mN, mI 0])) := ⟨_, rfl⟩
  have Fbg : fa o 0 0 ig bg := of_fw ebg
  have nbg : sN bg = o + 170 := by rw [Fbg.2.1, nig]
  have wbg : sH bg o = some (.inl (10, [mR (o + 1), mR (o + 3), mR (o + 85), mR (o + 167), mN, mN, mN, mI 0])) := of_wrA ebg
  have FFg : fa o 169 30981 σ bg := ((FFk.tr Fag (Nat.le_add_right _ _) rfl rfl).tr Fig (Nat.le_add_right _ _) rfl rfl).tr Fbg (Nat.le_refl _) rfl rfl
  obtain ⟨ae, eae⟩ : ∃ s, s = mx_al bg (.inl (1, [mN, mN, mN, mI 0, mI 0])) 5 := ⟨_, rfl⟩
  have Fae : fa (o + 170) 1 5 bg ae := of_fa (q := 0) eae (Nat.le_of_eq nbg.symm)
  have nae : sN ae = o + 170 + 1 := by rw [Fae.2.1, nbg]
  obtain ⟨ie, Fie, me⟩ := c1_init (of_alA eae nbg) nae (ar5 ((fa_sB Fae).trans (fa_sB FFg)) hb)
  have nie : sN ie = o + 215 := by rw [Fie.2.1, nae]
  have ue : ∀ q, q < o + 170 → sH ie q = sH bg q := fun q hq => (Fie.2.2.2.2 q hq).trans (Fae.2.2.2.2 q hq)
  have wie : sH ie o = _ := (ue o (ar7 (by decide))).trans wbg
  obtain ⟨be, ebe⟩ : ∃ s, s = mx_wr ie o (.inl (10, [mR (o + 1), mR (o + 3), mR (o + 85), mR (o + 167), mR (o + 170), mN, mN, mI 0])) := ⟨_, rfl⟩
  have Fbe : fa o 0 0 ie be := of_fw ebe
  have nbe : sN be = o + 215 := by rw [Fbe.2.1, nie]
  have wbe : sH be o = some (.inl (10, [mR (o + 1), mR (o + 3), mR (o + 85), mR (o + 167), mR (o + 170), mN, mN, mI 0])) := of_wrA ebe
  have FFe : fa o 214 32788 σ be := ((FFg.tr Fae (Nat.le_add_right _ _) rfl rfl).tr Fie (Nat.le_add_right _ _) rfl rfl).tr Fbe (Nat.le_refl _) rfl rfl
  obtain ⟨ap, eap⟩ : ∃ s, s = mx_al be (.inl (4, [mN, mN, mN, mI 0, mI 0, mI 0])) 6 := ⟨_, rfl⟩
  have Fap : fa (o + 215) 1 6 be ap := of_fa (q := 0) eap (Nat.le_of_eq nbe.symm)
  have nap : sN ap = o + 215 + 1 := by rw [Fap.2.1, nbe]
  obtain ⟨ip, Fip, mp⟩ := c4_init (of_alA eap nbe) nap (ar5 ((fa_sB Fap).trans (fa_sB FFe)) hb)
  have nip : sN ip = o + 219 := by rw [Fip.2.1, nap]
  have up : ∀ q, q < o + 215 → sH ip q = sH be q := fun q hq => (Fip.2.2.2.2 q hq).trans (Fap.2.2.2.2 q hq)
  have wip : sH ip o = _ := (up o (ar7 (by decide))).trans wbe
  obtain ⟨bp, ebp⟩ : ∃ s, s = mx_wr ip o (.inl (10, [mR (o + 1), mR (o + 3), mR (o + 85), mR (o + 167), mR (o + 170), mR (o + 215), mN, mI 0])) := ⟨_, rfl⟩
  have Fbp : fa o 0 0 ip bp := of_fw ebp
  have nbp : sN bp = o + 219 := by rw [Fbp.2.1, nip]
  have wbp : sH bp o = some (.inl (10, [mR (o + 1), mR (o + 3), mR (o + 85), mR (o + 167), mR (o + 170), mR (o + 215), mN, mI 0])) := of_wrA ebp
  have FFp : fa o 218 32914 σ bp := ((FFe.tr Fap (Nat.le_add_right _ _) rfl rfl).tr Fip (Nat.le_add_right _ _) rfl rfl).tr Fbp (Nat.le_refl _) rfl rfl
  obtain ⟨aq, eaq⟩ : ∃ s, s = mx_al bp (.inl (3, [mN, mI 0, mI 0])) 3 := ⟨_, rfl⟩
  have Faq : fa (o + 219) 1 3 bp aq := of_fa (q := 0) eaq (Nat.le_of_eq nbp.symm)
  have naq : sN aq = o + 219 + 1 := by rw [Faq.2.1, nbp]
  obtain ⟨iq, Fiq, mq⟩ := c3_init (of_alA eaq nbp) naq (ar5 ((fa_sB Faq).trans (fa_sB FFp)) hb)
  have niq : sN iq = o + 221 := by rw [Fiq.2.1, naq]
  have uq : ∀ q, q < o + 219 → sH iq q = sH bp q := fun q hq => (Fiq.2.2.2.2 q hq).trans (Faq.2.2.2.2 q hq)
  have wiq : sH iq o = _ := (uq o (ar7 (by decide))).trans wbp
  obtain ⟨bq, ebq⟩ : ∃ s, s = mx_wr iq o (.inl (10, [mR (o + 1), mR (o + 3), mR (o + 85), mR (o + 167), mR (o + 170), mR (o + 215), mR (o + 219), mI 0])) := ⟨_, rfl⟩
  have Fbq : fa o 0 0 iq bq := of_fw ebq
  have nbq : sN bq = o + 221 := by rw [Fbq.2.1, niq]
  have wbq : sH bq o = some (.inl (10, [mR (o + 1), mR (o + 3), mR (o + 85), mR (o + 167), mR (o + 170), mR (o + 215), mR (o + 219), mI 0])) := of_wrA ebq
  have FFq : fa o 220 32957 σ bq := ((FFp.tr Faq (Nat.le_add_right _ _) rfl rfl).tr Fiq (Nat.le_add_right _ _) rfl rfl).tr Fbq (Nat.le_refl _) rfl rfl
  have Vr : isR br (o + 1) R0 := pir.kp (fun q q1 q2 => of_wr ebr (ar1 q1 (by decide)))
  have Vr2 : isR bh (o + 1) R0 := Vr.kp (fun q q1 q2 => (of_wr ebh (ar1 q1 (by decide))).trans (uh q q2))
  have Vh : isH bh (o + 3) H0 := pih.kp (fun q q1 q2 => of_wr ebh (ar1 q1 (by decide)))
  have Ck : ∀ q, o < q → q < o + 85 → sH bk q = sH bh q := fun q h1 h2 => (of_wr ebk (Nat.ne_of_gt h1)).trans (uk q h2)
  have Cg : ∀ q, o < q → q < o + 85 → sH bg q = sH bh q := fun q h1 h2 => (of_wr ebg (Nat.ne_of_gt h1)).trans ((ug q (ar2 h2 (by decide))).trans (Ck q h1 h2))
  have Ce : ∀ q, o < q → q < o + 85 → sH be q = sH bh q := fun q h1 h2 => (of_wr ebe (Nat.ne_of_gt h1)).trans ((ue q (ar2 h2 (by decide))).trans (Cg q h1 h2))
  have Cp : ∀ q, o < q → q < o + 85 → sH bp q = sH bh q := fun q h1 h2 => (of_wr ebp (Nat.ne_of_gt h1)).trans ((up q (ar2 h2 (by decide))).trans (Ce q h1 h2))
  have Cq : ∀ q, o < q → q < o + 85 → sH bq q = sH bh q := fun q h1 h2 => (of_wr ebq (Nat.ne_of_gt h1)).trans ((uq q (ar2 h2 (by decide))).trans (Cp q h1 h2))
  refine ⟨bq, ⟨⟨_, _, _, _, _, 0, by decide, by decide, wbq⟩, Vr2.kp (fun q q1 q2 => Cq q (ar3 q1 (by decide)) (ar2 (a := 3) q2 (by decide))), Vh.kp (fun q q1 q2 => Cq q (ar3 q1 (by decide)) (ar2 (a := 85) q2 (by decide)))⟩, FFq, ?_⟩
  refine mx_retE (by decide) rfl (Nat.le_of_ble_eq_true rfl) FFq.1 (by rw [FFq.2.2.1]; exact Nat.le_add_right _ _) (by rw [FFq.2.2.2.1]; exact Nat.le_add_right _ _) fun kb wb Q hk hw hQ => ?_
  have k1r : sK σ + 1 ≤ kb := Nat.le_trans (ar4 (Nat.add_zero _).symm FFq.2.2.1 (Nat.le_of_ble_eq_true rfl)) hk
  have l1r : sW σ + 2 ≤ wb := Nat.le_trans (ar4 (Nat.add_zero _).symm FFq.2.2.2.1 (Nat.le_of_ble_eq_true rfl)) hw
  have k2r : sK ir ≤ kb := Nat.le_trans (ar4 (n := 0) (Fbr.2.2.1.symm.trans FFr.2.2.1) FFq.2.2.1 (Nat.le_of_ble_eq_true rfl)) hk
  have l2r : sW ir ≤ wb := Nat.le_trans (ar4 (n := 0) (Fbr.2.2.2.1.symm.trans FFr.2.2.2.1) FFq.2.2.2.1 (Nat.le_of_ble_eq_true rfl)) hw
  have zr : sB ir ≤ o := ar6 ((fa_sB Fir).trans (fa_sB Far)) hb
  have k1h : sK br + 1 ≤ kb := Nat.le_trans (ar4 FFr.2.2.1 FFq.2.2.1 (Nat.le_of_ble_eq_true rfl)) hk
  have l1h : sW br + 7 ≤ wb := Nat.le_trans (ar4 FFr.2.2.2.1 FFq.2.2.2.1 (Nat.le_of_ble_eq_true rfl)) hw
  have k2h : sK ih ≤ kb := Nat.le_trans (ar4 (n := 0) (Fbh.2.2.1.symm.trans FFh.2.2.1) FFq.2.2.1 (Nat.le_of_ble_eq_true rfl)) hk
  have l2h : sW ih ≤ wb := Nat.le_trans (ar4 (n := 0) (Fbh.2.2.2.1.symm.trans FFh.2.2.2.1) FFq.2.2.2.1 (Nat.le_of_ble_eq_true rfl)) hw
  have zh : sB ih ≤ o := ar6 ((fa_sB Fih).trans ((fa_sB Fah).trans (fa_sB FFr))) hb
  have k1k : sK bh + 1 ≤ kb := Nat.le_trans (ar4 FFh.2.2.1 FFq.2.2.1 (Nat.le_of_ble_eq_true rfl)) hk
  have l1k : sW bh + 7 ≤ wb := Nat.le_trans (ar4 FFh.2.2.2.1 FFq.2.2.2.1 (Nat.le_of_ble_eq_true rfl)) hw
  have k2k : sK ik ≤ kb := Nat.le_trans (ar4 (n := 0) (Fbk.2.2.1.symm.trans FFk.2.2.1) FFq.2.2.1 (Nat.le_of_ble_eq_true rfl)) hk
  have l2k : sW ik ≤ wb := Nat.le_trans (ar4 (n := 0) (Fbk.2.2.2.1.symm.trans FFk.2.2.2.1) FFq.2.2.2.1 (Nat.le_of_ble_eq_true rfl)) hw
  have zk : sB ik ≤ o := ar6 ((fa_sB Fik).trans ((fa_sB Fak).trans (fa_sB FFh))) hb
  have k1g : sK bk + 1 ≤ kb := Nat.le_trans (ar4 FFk.2.2.1 FFq.2.2.1 (Nat.le_of_ble_eq_true rfl)) hk
  have l1g : sW bk + 6 ≤ wb := Nat.le_trans (ar4 FFk.2.2.2.1 FFq.2.2.2.1 (Nat.le_of_ble_eq_true rfl)) hw
  have k2g : sK ig ≤ kb := Nat.le_trans (ar4 (n := 0) (Fbg.2.2.1.symm.trans FFg.2.2.1) FFq.2.2.1 (Nat.le_of_ble_eq_true rfl)) hk
  have l2g : sW ig ≤ wb := Nat.le_trans (ar4 (n := 0) (Fbg.2.2.2.1.symm.trans FFg.2.2.2.1) FFq.2.2.2.1 (Nat.le_of_ble_eq_true rfl)) hw
  have zg : sB ig ≤ o := ar6 ((fa_sB Fig).trans ((fa_sB Fag).trans (fa_sB FFk))) hb
  have k1e : sK bg + 1 ≤ kb := Nat.le_trans (ar4 FFg.2.2.1 FFq.2.2.1 (Nat.le_of_ble_eq_true rfl)) hk
  have l1e : sW bg + 5 ≤ wb := Nat.le_trans (ar4 FFg.2.2.2.1 FFq.2.2.2.1 (Nat.le_of_ble_eq_true rfl)) hw
  have k2e : sK ie ≤ kb := Nat.le_trans (ar4 (n := 0) (Fbe.2.2.1.symm.trans FFe.2.2.1) FFq.2.2.1 (Nat.le_of_ble_eq_true rfl)) hk
  have l2e : sW ie ≤ wb := Nat.le_trans (ar4 (n := 0) (Fbe.2.2.2.1.symm.trans FFe.2.2.2.1) FFq.2.2.2.1 (Nat.le_of_ble_eq_true rfl)) hw
  have ze : sB ie ≤ o := ar6 ((fa_sB Fie).trans ((fa_sB Fae).trans (fa_sB FFg))) hb
  have k1p : sK be + 1 ≤ kb := Nat.le_trans (ar4 FFe.2.2.1 FFq.2.2.1 (Nat.le_of_ble_eq_true rfl)) hk
  have l1p : sW be + 6 ≤ wb := Nat.le_trans (ar4 FFe.2.2.2.1 FFq.2.2.2.1 (Nat.le_of_ble_eq_true rfl)) hw
  have k2p : sK ip ≤ kb := Nat.le_trans (ar4 (n := 0) (Fbp.2.2.1.symm.trans FFp.2.2.1) FFq.2.2.1 (Nat.le_of_ble_eq_true rfl)) hk
  have l2p : sW ip ≤ wb := Nat.le_trans (ar4 (n := 0) (Fbp.2.2.2.1.symm.trans FFp.2.2.2.1) FFq.2.2.2.1 (Nat.le_of_ble_eq_true rfl)) hw
  have zp : sB ip ≤ o := ar6 ((fa_sB Fip).trans ((fa_sB Fap).trans (fa_sB FFe))) hb
  have k1q : sK bp + 1 ≤ kb := Nat.le_trans (ar4 FFp.2.2.1 FFq.2.2.1 (Nat.le_of_ble_eq_true rfl)) hk
  have l1q : sW bp + 3 ≤ wb := Nat.le_trans (ar4 FFp.2.2.2.1 FFq.2.2.2.1 (Nat.le_of_ble_eq_true rfl)) hw
  have k2q : sK iq ≤ kb := Nat.le_trans (ar4 (n := 0) (Fbq.2.2.1.symm.trans FFq.2.2.1) FFq.2.2.1 (Nat.le_of_ble_eq_true rfl)) hk
  have l2q : sW iq ≤ wb := Nat.le_trans (ar4 (n := 0) (Fbq.2.2.2.1.symm.trans FFq.2.2.2.1) FFq.2.2.2.1 (Nat.le_of_ble_eq_true rfl)) hw
  have zq : sB iq ≤ o := ar6 ((fa_sB Fiq).trans ((fa_sB Faq).trans (fa_sB FFp))) hb
  refine B_Y10_init_0 ⟨k1r, l1r, fun s1r t1r q1r q2r => ?_⟩
  have q1r := q1r.trans ear.symm
  rw [hn] at q2r
  subst q1r q2r
  refine ⟨ir, mr, k2r, l2r, _, wir, Nat.le_of_ble_eq_true rfl, zr, fun s2r q3r => ?_⟩
  have q3r := q3r.trans ebr.symm
  subst q3r
  refine ⟨k1h, l1h, fun s1h t1h q1h q2h => ?_⟩
  have q1h := q1h.trans eah.symm
  rw [nbr] at q2h
  subst q1h q2h
  refine ⟨ih, mh, k2h, l2h, _, wih, Nat.le_of_ble_eq_true rfl, zh, fun s2h q3h => ?_⟩
  have q3h := q3h.trans ebh.symm
  subst q3h
  refine ⟨k1k, l1k, fun s1k t1k q1k q2k => ?_⟩
  have q1k := q1k.trans eak.symm
  rw [nbh] at q2k
  subst q1k q2k
  refine ⟨ik, mk, k2k, l2k, _, wik, Nat.le_of_ble_eq_true rfl, zk, fun s2k q3k => ?_⟩
  have q3k := q3k.trans ebk.symm
  subst q3k
  refine ⟨k1g, l1g, fun s1g t1g q1g q2g => ?_⟩
  have q1g := q1g.trans eag.symm
  rw [nbk] at q2g
  subst q1g q2g
  refine ⟨ig, mg, k2g, l2g, _, wig, Nat.le_of_ble_eq_true rfl, zg, fun s2g q3g => ?_⟩
  have q3g := q3g.trans ebg.symm
  subst q3g
  refine ⟨k1e, l1e, fun s1e t1e q1e q2e => ?_⟩
  have q1e := q1e.trans eae.symm
  rw [nbg] at q2e
  subst q1e q2e
  refine ⟨ie, me, k2e, l2e, _, wie, Nat.le_of_ble_eq_true rfl, ze, fun s2e q3e => ?_⟩
  have q3e := q3e.trans ebe.symm
  subst q3e
  refine ⟨k1p, l1p, fun s1p t1p q1p q2p => ?_⟩
  have q1p := q1p.trans eap.symm
  rw [nbe] at q2p
  subst q1p q2p
  refine ⟨ip, mp, k2p, l2p, _, wip, Nat.le_of_ble_eq_true rfl, zp, fun s2p q3p => ?_⟩
  have q3p := q3p.trans ebp.symm
  subst q3p
  refine ⟨k1q, l1q, fun s1q t1q q1q q2q => ?_⟩
  have q1q := q1q.trans eaq.symm
  rw [nbp] at q2q
  subst q1q q2q
  refine ⟨iq, mq, k2q, l2q, _, wiq, Nat.le_of_ble_eq_true rfl, zq, fun s2q q3q => ?_⟩
  have q3q := q3q.trans ebq.symm
  subst q3q
  exact hQ
