/-! buy, refund, pay -/
theorem bk_eq {b1 mb1 mb2 : Nat → Int32} {x : Int32} (h : Eq6 mb1 b1) (h1 : ∀ i, i ≠ 2 → mb2 i = mb1 i) (h2 : mb2 2 = mb1 2 + x) : Eq6 mb2 (upd b1 2 (b1 2 + x)) := fun i hi => by
  by_cases e : i = 2
  · subst e; rw [pk_us, h2, h 2 (by omega)]
  · rw [pk_un e, h1 i e]; exact h i hi

theorem ok_9 (j : Nat) (hj : j < 512) : lwOK9 (Rel j) (Rel (j + 1)) := by
  intro x1 x2 sz pr pm kv kn kr kt kb ks kj kw kg wd fw ad bk md cr ow hd mtd mnk mva mno mro mtu mbx mst mja mpr mcr mow mhd mmo mbk mca mfr mrs mrk mfe mus mgi maj h
  unfold lw_c9
  have h0 := Rel_mono j hj sz pr pm kv kn kr kt kb ks kj kw kg wd fw ad bk md cr ow hd mtd mnk mva mno mro mtu mbx mst mja mpr mcr mow mhd mmo mbk mca mfr mrs mrk mfe mus mgi maj h
  obtain ⟨n, V, R, T, P, c, o, m, ho, ⟨hK, hpm, hpr, ⟨rfl, hc, rfl, ho9, hj5, rfl, hm⟩, hhd, hfw⟩, rfl, rfl, rfl, rfl, rfl, ap, av, an, ar, au, ab, as, aj, ag, ak⟩ := h
  obtain ⟨rfl, hn, hv, hvd, hbb, hrt, hz⟩ := id hK
  have hKM := hK.toKN.eq6 av au
  have ht6 : ∀ i, i < 6 → mtu i = nI (T i) := fun i hi => (au i hi).trans (hrt i hi).2.2.1
  unfold wp_X5_buy
  unfold wp_X5_priced
  have no : (x1 < 0 ∨ (5 : Int32) < x1) → wp_X6_buy x1 mtd (nI n) mva mno mtu mbx mst mja mpr (nI c) (nI o) mhd (nI m) mbk mrs mrk mfe mus mgi (fun (r2 : Int32) (mtd' : Int32) (mtu' : Nat → Int32) (mbx' : Nat → Int32) (mst' : Nat → Int32) (mja' : Nat → Int32) (mcr' : Int32) (mow' : Int32) (mhd' : Int32) (mbk' : Nat → Int32) (mrs' : Int32) (mrk' : Nat → Int32) (mfe' : Nat → Int32) (mus' : Nat → Int32) (mgi' : Nat → Int32) => (-1 : Int32) = r2 ∧ Rel (j + 1) (nI n) pr pm kv kn kr kt kb ks kj kw kg wd fw ad bk (nI m) (nI c) (nI o) mhd mtd' (nI n) mva mno mro mtu' mbx' mst' mja' mpr mcr' mow' mhd' (nI m) mbk' mca mfr mrs' mrk' mfe' mus' mgi' maj) := by
    intro hor
    unfold wp_X6_buy
    refine ⟨fun _ => ⟨rfl, h0⟩, fun q => ⟨fun _ => ⟨rfl, h0⟩, fun q2 => ?_⟩⟩
    rcases hor with h | h
    · exact absurd h q
    · exact absurd h q2
  refine ⟨fun q1 => ⟨fun _ => no (Or.inl q1), fun q => absurd rfl q⟩, fun q1 => ⟨fun q2 => ?_, fun q2 => ⟨fun _ => no (Or.inr (by rw [i_lt, t_5]; rw [i_lt, t_6] at q2; omega)), fun q => absurd rfl q⟩⟩⟩
  obtain ⟨p, hp, rfl⟩ := nI_of q1
  have hp6 : p < 6 := (nI_ltI (by omega) (by omega)).mp q2
  have hin : vp_in (nI p) 6 := vp_in_nI hp6 (by omega)
  obtain ⟨p1, p2⟩ := hpr p hp6
  have hmp : mpr p = nI (P p) := (ap p hp6).trans p1
  rw [nI_clamp (show p < 2 ^ 31 by omega), p1]
  refine ⟨hin, fun q3 => ?_, fun q3 => ⟨fun q4 => ?_, fun q4 => ?_⟩⟩
  · unfold wp_X6_buy
    rw [nI_clamp (show p < 2 ^ 31 by omega), hmp]
    exact ⟨fun q => absurd q q1, fun _ => ⟨fun q => absurd q (nI_nlt (a := 5) (by omega) (by omega)), fun _ => ⟨hin, fun _ => ⟨rfl, h0⟩, fun q => absurd q3 q⟩⟩⟩
  · have hle : P p ≤ c := (nI_leI (by omega) (by omega)).mp q4
    cases ho with
    | none =>
      have e : mhd = -1 := hhd
      subst e
      refine sp_find_n hn (fun k hk e => absurd (show (-1 : Int32) < 0 by decide) (by rw [e]; exact nI_pos (by omega))) ⟨fun _ => ?_, fun i e => (by cases e)⟩
      refine ⟨vp_in_l (by decide), vp_in_l (by decide), ?_⟩
      unfold wp_X5_endCredit
      rw [pk_sub hle]
      refine sp_giveOut (R := R) (kr := kr) (kb := kb) hpm hm (hK) hfw (by omega) (fun kg1 L' T' kt' ks' kj' kw' kg' wd' fw' g0 g1 g2 g3 g4 => ?_)
      unfold wp_X6_buy
      rw [nI_clamp (show p < 2 ^ 31 by omega), hmp]
      refine ⟨fun q => absurd q q1, fun _ => ⟨fun q => absurd q (nI_nlt (a := 5) (by omega) (by omega)), fun _ => ⟨hin, fun q => absurd q q3, fun _ => ⟨hin, fun _ => ⟨hin, ?_⟩, fun q => absurd q4 q⟩⟩⟩⟩
      unfold jn
      refine ⟨fun _ => ⟨vp_in_l (by decide), hin, vp_in_l (by decide), ?_⟩, fun q => absurd rfl q⟩
      rw [pk_sub hle]
      exact sp_givesM hKM hm hvd an as aj g0 ht6 (by omega) g4 (fun mtu2 mst2 mja2 mbk2 mrs2 mrk2 mfe2 mus2 mgi2 k1 k2 k3 k4 k5 k6 => ⟨rfl, ⟨n, V, R, T', P, 0, (o + L'), m, none, ⟨g1, hpm, hpr, ⟨rfl, by omega, by rw [nI_add], by omega, by omega, rfl, hm⟩, rfl, g2⟩, rfl, rfl, rfl, rfl, rfl, ap, av, an, ar, fun i hi => (k1 i hi).trans (g1.2.2.2.2.2.1 i hi).2.2.1.symm, ab, k2, k3, k4, bk_eq (ak.up2 (by rw [ak _ (by decide)])) k5 k6⟩⟩)
    | some k =>
      obtain ⟨rfl, hk, hnk, hvk⟩ := hhd
      refine sp_find_y hk hn ⟨fun e => (by cases e), fun i e hi => ?_⟩
      cases e
      refine ⟨vp_in_l (by decide), vp_in_l (by decide), ?_⟩
      unfold wp_X5_endCredit
      rw [pk_sub hle]
      refine sp_giveOut (R := R) (kr := kr) (kb := upd kb k (kb k + 1)) hpm hm (hK.box (fun i h1 h2 => by rw [pk_un (by omega)]; exact (hz i h1 h2).2.2.1)) hfw (by omega) (fun kg1 L' T' kt' ks' kj' kw' kg' wd' fw' g0 g1 g2 g3 g4 => ?_)
      unfold wp_X6_buy
      rw [nI_clamp (show p < 2 ^ 31 by omega), hmp]
      refine ⟨fun q => absurd q q1, fun _ => ⟨fun q => absurd q (nI_nlt (a := 5) (by omega) (by omega)), fun _ => ⟨hin, fun q => absurd q q3, fun _ => ⟨hin, fun _ => ⟨hin, ?_⟩, fun q => absurd q4 q⟩⟩⟩⟩
      unfold jn
      refine ⟨fun q => absurd (show (-1 : Int32) < 0 by decide) (by rw [← q]; exact nI_pos (by omega)), fun _ => ⟨vp_in_nI (by omega) (by omega), vp_in_nI (by omega) (by omega), vp_in_l (by decide), hin, vp_in_l (by decide), ?_⟩⟩
      rw [nI_clamp (show k < 2 ^ 31 by omega), pk_sub hle]
      exact sp_givesM hKM hm hvd an as aj g0 ht6 (by omega) g4 (fun mtu2 mst2 mja2 mbk2 mrs2 mrk2 mfe2 mus2 mgi2 k1 k2 k3 k4 k5 k6 => ⟨rfl, ⟨n, V, R, T', P, 0, (o + L'), m, none, ⟨g1, hpm, hpr, ⟨rfl, by omega, by rw [nI_add], by omega, by omega, rfl, hm⟩, rfl, g2⟩, rfl, rfl, rfl, rfl, rfl, ap, av, an, ar, fun i hi => (k1 i hi).trans (g1.2.2.2.2.2.1 i hi).2.2.1.symm, ab.up2 (by rw [ab k (by omega)]), k2, k3, k4, bk_eq (ak.up2 (by rw [ak _ (by decide)])) k5 k6⟩⟩)
  · unfold wp_X6_buy
    rw [nI_clamp (show p < 2 ^ 31 by omega), hmp]
    exact ⟨fun q => absurd q q1, fun _ => ⟨fun q => absurd q (nI_nlt (a := 5) (by omega) (by omega)), fun _ => ⟨hin, fun q => absurd q q3, fun _ => ⟨hin, fun q => absurd q q4, fun _ => ⟨rfl, h0⟩⟩⟩⟩⟩

theorem ok_10 (j : Nat) (hj : j < 512) : lwOK10 (Rel j) (Rel (j + 1)) := by
  intro x1 x2 sz pr pm kv kn kr kt kb ks kj kw kg wd fw ad bk md cr ow hd mtd mnk mva mno mro mtu mbx mst mja mpr mcr mow mhd mmo mbk mca mfr mrs mrk mfe mus mgi maj h
  unfold lw_c10
  have h0 := Rel_mono j hj sz pr pm kv kn kr kt kb ks kj kw kg wd fw ad bk md cr ow hd mtd mnk mva mno mro mtu mbx mst mja mpr mcr mow mhd mmo mbk mca mfr mrs mrk mfe mus mgi maj h
  obtain ⟨n, V, R, T, P, c, o, m, ho, ⟨hK, hpm, hpr, ⟨rfl, hc, rfl, ho9, hj5, rfl, hm⟩, hhd, hfw⟩, rfl, rfl, rfl, rfl, rfl, ap, av, an, ar, au, ab, as, aj, ag, ak⟩ := h
  obtain ⟨rfl, hn, hv, hvd, hbb, hrt, hz⟩ := id hK
  have hKM := hK.toKN.eq6 av au
  have ht6 : ∀ i, i < 6 → mtu i = nI (T i) := fun i hi => (au i hi).trans (hrt i hi).2.2.1
  unfold wp_X5_refund
  have hvm : ∀ i, i < n → mva i = nI (V i) := fun i hi => (av i (by omega)).trans (hv i hi).1
  have hle := hval_le hhd
  refine ⟨fun q => sp_heldC hn hv hhd ⟨vp_in_l (by decide), vp_in_l (by decide), ?_⟩, fun q => ?_⟩
  · unfold wp_X5_endCredit
    rw [pk_sub hle]
    refine sp_giveOut (R := R) (kr := kr) (kb := kb) hpm hm hK hfw (by omega) (fun kg1 L' T' kt' ks' kj' kw' kg' wd' fw' g0 g1 g2 g3 g4 => ?_)
    unfold wp_X6_refund
    refine ⟨fun _ => sp_heldM hn hvm hhd ⟨vp_in_l (by decide), sp_heldM hn hvm hhd ⟨vp_in_l (by decide), ?_⟩⟩, fun q2 => absurd q2 q⟩
    rw [pk_sub hle]
    exact sp_givesM hKM hm hvd an as aj g0 ht6 (by omega) g4 (fun mtu2 mst2 mja2 mbk2 mrs2 mrk2 mfe2 mus2 mgi2 k1 k2 k3 k4 k5 k6 => ⟨rfl, ⟨n, V, R, T', P, 0, (o + L'), m, none, ⟨g1, hpm, hpr, ⟨rfl, by omega, by rw [nI_add], by omega, by omega, rfl, hm⟩, rfl, g2⟩, rfl, rfl, rfl, rfl, rfl, ap, av, an, ar, fun i hi => (k1 i hi).trans (g1.2.2.2.2.2.1 i hi).2.2.1.symm, ab, k2, k3, k4, bk_eq (ak.up2 (by rw [ak _ (by decide)])) k5 k6⟩⟩)
  · unfold wp_X6_refund
    exact ⟨fun q2 => absurd q q2, fun _ => ⟨rfl, h0⟩⟩

theorem ok_11 (j : Nat) (hj : j < 512) : lwOK11 (Rel j) (Rel (j + 1)) := by
  intro x1 x2 sz pr pm kv kn kr kt kb ks kj kw kg wd fw ad bk md cr ow hd mtd mnk mva mno mro mtu mbx mst mja mpr mcr mow mhd mmo mbk mca mfr mrs mrk mfe mus mgi maj h
  unfold lw_c11
  have h0 := Rel_mono j hj sz pr pm kv kn kr kt kb ks kj kw kg wd fw ad bk md cr ow hd mtd mnk mva mno mro mtu mbx mst mja mpr mcr mow mhd mmo mbk mca mfr mrs mrk mfe mus mgi maj h
  obtain ⟨n, V, R, T, P, c, o, m, ho, ⟨hK, hpm, hpr, ⟨rfl, hc, rfl, ho9, hj5, rfl, hm⟩, hhd, hfw⟩, rfl, rfl, rfl, rfl, rfl, ap, av, an, ar, au, ab, as, aj, ag, ak⟩ := h
  obtain ⟨rfl, hn, hv, hvd, hbb, hrt, hz⟩ := id hK
  have hKM := hK.toKN.eq6 av au
  have ht6 : ∀ i, i < 6 → mtu i = nI (T i) := fun i hi => (au i hi).trans (hrt i hi).2.2.1
  unfold wp_X5_pay
  have ho32 : o < 2 ^ 31 := by omega
  refine ⟨fun q => ?_, fun q => ?_⟩
  · unfold wp_X6_pay
    exact ⟨fun _ => ⟨rfl, h0⟩, fun q2 => absurd q q2⟩
  · by_cases hs : o ≤ 999
    · refine sp_plan hK hpm hfw hm hs (fun hno kw2 wd2 fw2 hf => ⟨fun q => absurd rfl q, fun _ => ?_⟩) (fun kw2 wd2 fw2 f w hre hf e1 e2 e3 e4 => ⟨fun _ => ?_, fun q => absurd q (by decide)⟩)
      · unfold wp_X6_pay
        refine ⟨fun q2 => absurd q2 q, fun _ => ⟨fun _ => sp_findSums hKM (fun m2 f2 hca => ⟨vp_in_nI (by omega) (by omega), ?_⟩), fun q2 => absurd (nI_le (b := 999) hs (by omega)) q2⟩⟩
        rw [nI_clamp ho32]
        refine ⟨fun q2 => ?_, fun _ => ⟨rfl, ⟨n, V, R, T, P, c, o, m, ho, ⟨hK, hpm, hpr, ⟨rfl, hc, rfl, by omega, by omega, rfl, hm⟩, hhd, hf⟩, rfl, rfl, rfl, rfl, rfl, ap, av, an, ar, au, ab, as, aj, ag, ak⟩⟩⟩
        rcases (hca o (by omega)).1 with e | e
        · exact absurd e q2
        · exact absurd ((Rc_eq hn an as).mp ((hca o (by omega)).2.mp e)) hno
      · have ez : (0 : Int32) = nI 0 := rfl
        refine sp_giveOut (R := R) (kr := kr) (kb := kb) hpm hm hK hf hs (fun kg1 L' T' kt' ks' kj' kw' kg' wd' fw' g0 g1 g2 g3 g4 => ?_)
        unfold wp_X6_pay
        refine ⟨fun q2 => absurd q2 q, fun _ => ⟨fun _ => sp_findSums hKM (fun m2 f2 hca => ⟨vp_in_nI (by omega) (by omega), ?_⟩), fun q2 => absurd (nI_le (b := 999) hs (by omega)) q2⟩⟩
        rw [nI_clamp ho32]
        refine ⟨fun _ => ?_, fun q2 => ?_⟩
        · exact sp_givesM hKM hm hvd an as aj g0 ht6 hs g4 (fun mtu2 mst2 mja2 mbk2 mrs2 mrk2 mfe2 mus2 mgi2 k1 k2 k3 k4 k5 k6 => ⟨rfl, ⟨n, V, R, T', P, c, L', m, ho, ⟨g1, hpm, hpr, ⟨rfl, hc, by rw [Int32.zero_add], by omega, by omega, rfl, hm⟩, hhd, g2⟩, rfl, rfl, rfl, rfl, rfl, ap, av, an, ar, fun i hi => (k1 i hi).trans (g1.2.2.2.2.2.1 i hi).2.2.1.symm, ab, k2, k3, k4, bk_eq ak k5 k6⟩⟩)
        · have e := (hca o (by omega)).2.mpr ((Rc_eq hn an as).mpr hre)
          rw [e] at q2
          exact absurd q2 (by decide)
    · refine sp_plan_out (Or.inr (fun q2 => hs ((nI_leI (b := 999) (by omega) (by omega)).mp q2))) ⟨fun q => absurd rfl q, fun _ => ?_⟩
      unfold wp_X6_pay
      exact ⟨fun q2 => absurd q2 q, fun _ => ⟨fun q2 => absurd ((nI_leI (b := 999) (by omega) (by omega)).mp q2) hs, fun _ => ⟨rfl, h0⟩⟩⟩
