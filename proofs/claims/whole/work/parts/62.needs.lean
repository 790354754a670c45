/-! need: both are one -/
theorem need_same {n t u : Nat} (hn : n ≤ 6) {V R T P : Nat → Nat} {kn ks : Nat → Int32} {a b : Nat → Nat} (ht : t ≤ 4) (hu : u ≤ 4) (c1 : s6 b = t) (c2 : SolC n V R T P kn ks b) (c3 : ∀ b2, s6 b2 = t → SolC n V R T P kn ks b2 → mu b2 ≤ mu b) (c4 : ∀ b2, s6 b2 < t → ¬ SolC n V R T P kn ks b2) (d1 : s6 a = u) (d2 : SolR n V R T P kn ks a) (d3 : ∀ b2, s6 b2 = u → SolR n V R T P kn ks b2 → mu b2 ≤ mu a) (d4 : ∀ b2, s6 b2 < u → ¬ SolR n V R T P kn ks b2) : t = u ∧ ∀ i, i < 6 → b i = a i := by
  have hz := SolR_zs d2
  have hzle : s6 (zs kn ks a) ≤ s6 a := s6_le (fun i _ => zs_le i)
  have e1 : ¬ t < u := fun q => d4 b (by omega) (SolC_R c2)
  have e2 : ¬ s6 (zs kn ks a) < t := fun q => c4 _ q hz
  have e : t = u := by omega
  have ez := s6_eq (a := zs kn ks a) (b := a) (fun i _ => zs_le i) (by omega)
  have f1 := c3 a (by omega) (SolC_congr hn ez hz)
  have f2 := d3 b (by omega) (SolC_R c2)
  exact ⟨e, mu_inj (by omega) (by omega) (by omega)⟩

theorem ok_17 (j : Nat) (hj : j < 512) : lwOK17 (Rel j) (Rel (j + 1)) := by
  intro x1 x2 sz pr pm kv kn kr kt kb ks kj kw kg wd fw ad bk md cr ow hd mtd mnk mva mno mro mtu mbx mst mja mpr mcr mow mhd mmo mbk mca mfr mrs mrk mfe mus mgi maj h
  unfold lw_c17
  have h0 := Rel_mono j hj sz pr pm kv kn kr kt kb ks kj kw kg wd fw ad bk md cr ow hd mtd mnk mva mno mro mtu mbx mst mja mpr mcr mow mhd mmo mbk mca mfr mrs mrk mfe mus mgi maj h
  obtain ⟨n, V, R, T, P, c, o, m, ho, ⟨hK, hpm, hpr, ⟨rfl, hc, rfl, ho9, hj5, rfl, hm⟩, hhd, hfw⟩, rfl, rfl, rfl, rfl, rfl, ap, av, an, ar, au, ab, as, aj, ag, ak⟩ := h
  obtain ⟨rfl, hn, hv, hvd, hbb, hrt, hz⟩ := id hK
  have hprm : PRI P mpr := fun p hp => by rw [ap p hp]; exact hpr p hp
  have hm6 : ∀ i, i < 6 → mtu i = nI (T i) := fun i hi => (au i hi).trans (hrt i hi).2.2.1
  have hvm : ∀ i, i < n → mva i = nI (V i) ∧ 1 ≤ V i ∧ V i ≤ 200 := fun i hi => by rw [av i (by omega)]; exact hv i hi
  have hr6 : ∀ i, i < 6 → mro i = nI (R i) ∧ R i ≤ 20 ∧ T i ≤ R i := fun i hi => ⟨(ar i hi).trans (hrt i hi).1, (hrt i hi).2.1, (hrt i hi).2.2.2⟩
  have hRel : ∀ (wd2 : Nat → Nat → Int64) (ad2 : Nat → Int32) (mtd2 : Int32) (mtu2 mca2 mfr2 maj2 : Nat → Int32), (∀ i, i < 6 → mtu2 i = nI (T i)) → Rel (j + 1) (nI n) pr pm kv kn kr kt kb ks kj kw kg wd2 fw ad2 bk (nI m) (nI c) (nI o) mhd mtd2 (nI n) mva mno mro mtu2 mbx mst mja mpr (nI c) (nI o) mhd (nI m) mbk mca2 mfr2 mrs mrk mfe mus mgi maj2 := fun _ _ _ _ _ _ _ gm => ⟨n, V, R, T, P, c, o, m, ho, ⟨hK, hpm, hpr, ⟨rfl, hc, rfl, by omega, by omega, rfl, hm⟩, hhd, hfw⟩, rfl, rfl, rfl, rfl, rfl, ap, av, an, ar, fun i hi => (gm i hi).trans (hrt i hi).2.2.1.symm, ab, as, aj, ag, ak⟩
  -- the asked loop of the reference, from what the class found
  have go : ∀ (r : Int32) (wd2 : Nat → Nat → Int64) (ad2 : Nat → Int32),
      ((∃ t b, t ≤ 4 ∧ s6 b = t ∧ SolC n V R T P kn ks b ∧ (∀ b2, s6 b2 = t → SolC n V R T P kn ks b2 → mu b2 ≤ mu b) ∧ (∀ b2, s6 b2 < t → ¬ SolC n V R T P kn ks b2) ∧ (x1 = 0 → r = nI t) ∧ (¬ x1 = 0 → ∃ k, k < n ∧ x1 - 10 = nI k ∧ r = nI (b k))) ∨ ((∀ b2, s6 b2 ≤ 4 → ¬ SolC n V R T P kn ks b2) ∧ r = -1)) →
      ∃ f, wp_X6_need_40 x1 0 (nI n) mva mno mro mst mpr (fun (r2 : Int32) (mtd' : Int32) (mtu' : Nat → Int32) (mca' : Nat → Int32) (mfr' : Nat → Int32) (maj' : Nat → Int32) => r = r2 ∧ Rel (j + 1) (nI n) pr pm kv kn kr kt kb ks kj kw kg wd2 fw ad2 bk (nI m) (nI c) (nI o) mhd mtd' (nI n) mva mno mro mtu' mbx mst mja mpr (nI c) (nI o) mhd (nI m) mbk mca' mfr' mrs mrk mfe mus mgi maj') (fun mtu_3 mca_3 mfr_3 maj_3 => r = (-1 : Int32) ∧ Rel (j + 1) (nI n) pr pm kv kn kr kt kb ks kj kw kg wd2 fw ad2 bk (nI m) (nI c) (nI o) mhd 0 (nI n) mva mno mro mtu_3 mbx mst mja mpr (nI c) (nI o) mhd (nI m) mbk mca_3 mfr_3 mrs mrk mfe mus mgi maj_3) f 0 mtu mca mfr maj := by
    intro r wd2 ad2 hor
    refine sp_need40 hn hvm an as hr6 hprm hm6 (fun u a mtu2 mca2 mfr2 maj2 hu d1 d2 d3 d4 gm ga => ?_) (fun hnone mtu2 mca2 mfr2 maj2 gm => ?_)
    · rcases hor with ⟨t, b, ht, c1, c2, c3, c4, c5, c6⟩ | ⟨hn2, -⟩
      · obtain ⟨e1, e2⟩ := need_same hn ht hu c1 c2 c3 c4 d1 d2 d3 d4
        subst e1
        refine ⟨fun q => ?_, fun q => ⟨c5 q, hRel _ _ _ _ _ _ _ gm⟩⟩
        obtain ⟨k, hk, ek, er⟩ := c6 q
        rw [ek, nI_clamp (show k < 2 ^ 31 by omega), ga k (by omega), er, e2 k (by omega)]
        exact ⟨vp_in_nI (by omega) (by omega), rfl, hRel _ _ _ _ _ _ _ gm⟩
      · have := s6_le (a := zs kn ks a) (b := a) (fun i _ => zs_le i)
        exact absurd (SolR_zs d2) (hn2 _ (by omega))
    · rcases hor with ⟨t, b, ht, c1, c2, c3, c4, c5, c6⟩ | ⟨-, er⟩
      · exact absurd (SolC_R c2) (hnone b (by omega))
      · exact ⟨er, hRel _ _ _ _ _ _ _ gm⟩
  unfold wp_X5_need
  unfold wp_X6_need
  unfold jn
  by_cases hx0 : x1 = 0
  · subst hx0
    refine ⟨fun q => absurd q (by decide), fun _ => ⟨fun _ => ?_, fun q => absurd rfl q⟩⟩
    refine sp_fewest hK hpr (fun t b wd2 ad2 ht c1 c2 c3 c4 c5 => ?_) (fun hnone wd2 ad2 => ?_)
    · have gg := go (nI t) wd2 ad2 (Or.inl ⟨t, b, ht, c1, c2, c3, c4, fun _ => rfl, fun q => absurd rfl q⟩)
      exact ⟨fun _ => ⟨fun _ => ⟨fun _ => gg, fun q => absurd q (by decide)⟩, fun q => absurd rfl q⟩, fun _ => ⟨fun _ => ⟨fun _ => gg, fun q => absurd q (by decide)⟩, fun q => absurd rfl q⟩⟩
    · have gg := go (-1) wd2 ad2 (Or.inr ⟨hnone, rfl⟩)
      exact ⟨fun _ => ⟨fun _ => ⟨fun _ => gg, fun q => absurd q (by decide)⟩, fun q => absurd rfl q⟩, fun q => absurd rfl q⟩
  · by_cases hx10 : (10 : Int32) ≤ x1
    · have hnlt : ¬ x1 < 10 := fun q => by rw [i_lt] at q; rw [i_le] at hx10; omega
      refine ⟨fun _ => ?_, fun q => absurd hx10 q⟩
      rcases isK (x1 - 10) n hn with ⟨k, hk, ek⟩ | hxn
      · rw [ek]
        refine sp_find_y hk hn ⟨fun e => (by cases e), fun i e hi => ⟨fun q => absurd q hx0, fun _ => ?_⟩⟩
        cases e
        refine sp_fewest hK hpr (fun t b wd2 ad2 ht c1 c2 c3 c4 c5 => ⟨fun q => absurd (show (-1 : Int32) < 0 by decide) (by rw [← q]; exact nI_pos (by omega)), fun _ => ⟨vp_in_nI (by omega) (by omega), ?_⟩⟩) (fun hnone wd2 ad2 => ⟨fun _ => ?_, fun q => absurd rfl q⟩)
        · rw [nI_clamp (show k < 2 ^ 31 by omega), c5 k (by omega)]
          have gg := go (nI (b k)) wd2 ad2 (Or.inl ⟨t, b, ht, c1, c2, c3, c4, fun q => absurd q hx0, fun _ => ⟨k, hk, ek, rfl⟩⟩)
          exact ⟨fun q => absurd q hx0, fun _ => ⟨fun q => absurd q hnlt, fun _ => sp_isKind_y hk hn ⟨fun q => absurd q (by decide), fun _ => ⟨fun _ => gg, fun q => absurd q (by decide)⟩⟩⟩⟩
        · have gg := go (-1) wd2 ad2 (Or.inr ⟨hnone, rfl⟩)
          exact ⟨fun q => absurd q hx0, fun _ => ⟨fun q => absurd q hnlt, fun _ => sp_isKind_y hk hn ⟨fun q => absurd q (by decide), fun _ => ⟨fun _ => gg, fun q => absurd q (by decide)⟩⟩⟩⟩
      · refine sp_find_n hn hxn ⟨fun _ => ⟨fun q => absurd q hx0, fun _ => ?_⟩, fun i e => (by cases e)⟩
        exact ⟨fun q => absurd q hx0, fun _ => ⟨fun _ => ⟨fun q => absurd rfl q, fun _ => ⟨rfl, h0⟩⟩, fun _ => sp_isKind_n hn hxn ⟨fun _ => ⟨fun q => absurd rfl q, fun _ => ⟨rfl, h0⟩⟩, fun q => absurd rfl q⟩⟩⟩
    · have hlt : x1 < 10 := by rw [i_lt]; rw [i_le] at hx10; omega
      refine ⟨fun q => absurd q hx10, fun _ => ⟨fun q => absurd q hx0, fun _ => ?_⟩⟩
      exact ⟨fun q => absurd q hx0, fun _ => ⟨fun _ => ⟨fun q => absurd rfl q, fun _ => ⟨rfl, h0⟩⟩, fun q => absurd hlt q⟩⟩
