/-! way and coins -/
theorem sp_findWay {n m s : Nat} {V T : Nat → Nat} {mva mno mtu mst mrk mfe mus : Nat → Int32} {mrs : Int32} {K : Int32 → Int32 → (Nat → Int32) → (Nat → Int32) → (Nat → Int32) → Prop} (hKN : KN n V T (nI n) mva mtu) (hd : ∀ i j, i < n → j < n → V i = V j → i = j) (hm : m ≤ 1) (hs : s ≤ 999)
    (h0 : ¬ Rc n V (spN mno mst T 0) s → ∀ mrs2 mrk2 mfe2 mus2, K 0 mrs2 mrk2 mfe2 mus2)
    (h1 : Rc n V (spN mno mst T 0) s → ∀ rs rk mrk2 mfe2 mus2 f w, RKI n V mno rs rk → (∀ i, i < rs → mrk2 i = nI (rk i)) → SPsel n m V T mno mst s f → Rc n V f s → IsW n V mno f s w → (∀ k, k < 6 → mus2 k = nI (w k)) → (∀ k, n ≤ k → w k = 0) → K 1 (nI rs) mrk2 mfe2 mus2) : wp_X6_findWay (nI s) (nI n) mva mno mtu mst (nI m) mrs mrk mfe mus K := by
  obtain ⟨-, hn, hv, ht⟩ := id hKN
  unfold wp_X6_findWay
  refine ⟨fun q => ⟨20 + 1, ?_⟩, fun q => ?_⟩
  · have em : m = 1 := by
      have : ¬ m = 0 := fun e => q (by rw [e]; rfl)
      omega
    have sel : ∀ r, r ≤ 20 → (∀ i, i < n → gvs mno mst i = true → r ≤ T i) → (∀ r2, r < r2 → r2 ≤ 20 → (∀ i, i < n → gvs mno mst i = true → r2 ≤ T i) → ¬ Rc n V (spN mno mst T r2) s) → SPsel n m V T mno mst s (spN mno mst T r) := by
      intro r hr hall hno
      refine ⟨r, hr, fun _ _ => rfl, fun e => by omega, fun _ => ?_⟩
      by_cases hg : ∃ i, i < n ∧ gvs mno mst i = true
      · obtain ⟨i, hi, hgi⟩ := hg
        refine Or.inr ⟨hall, fun r2 hlt hle => hno r2 hlt ?_ hle⟩
        have := hle i hi hgi
        have := (ht i hi).2
        omega
      · refine Or.inl (fun i hi => ?_)
        cases e : gvs mno mst i with
        | false => rfl
        | true => exact absurd ⟨i, hi, e⟩ hg
    have lp : ∀ (t : Nat) (mrs : Int32) (mrk mfe mus : Nat → Int32), t ≤ 20 → (∀ r2, t < r2 → r2 ≤ 20 → (∀ i, i < n → gvs mno mst i = true → r2 ≤ T i) → ¬ Rc n V (spN mno mst T r2) s) → wp_X6_findWay_17 (nI s) (nI n) mva mno mtu mst K (fun (mrs_2 : Int32) (mrk_2 : Nat → Int32) (mfe_2 : Nat → Int32) (mus_2 : Nat → Int32) => wp_X6_isWay (nI s) (0 : Int32) (nI n) mva mno mtu mst mrs_2 mrk_2 mfe_2 mus_2 (fun (r_3 : Int32) (mrs_3 : Int32) (mrk_3 : Nat → Int32) (mfe_3 : Nat → Int32) (mus_3 : Nat → Int32) => K r_3 mrs_3 mrk_3 mfe_3 mus_3)) (t + 1) (nI t) mrs mrk mfe mus := by
      intro t
      induction t with
      | zero =>
        intro mrs mrk mfe mus ht0 hno
        unfold wp_X6_findWay_17
        refine ⟨fun _ => ?_, fun q => absurd (by decide) q⟩
        refine sp_isWay (r := 0) hKN hd (by omega) hs (fun hor => h0 ?_) (fun hall hre rs rk mrk2 mfe2 mus2 w e1 e2 e3 e4 e5 => h1 hre rs rk mrk2 mfe2 mus2 (spN mno mst T 0) w e1 e2 (sel 0 (by omega) hall hno) hre e3 e4 e5)
        rcases hor with h | h
        · exact absurd (fun i _ _ => Nat.zero_le _) h
        · exact h
      | succ t ih =>
        intro mrs mrk mfe mus ht0 hno
        unfold wp_X6_findWay_17
        rw [nI_m1, nI_p1]
        refine ⟨fun q => absurd ((nI_le0 (by omega)).mp q) (by omega), fun _ => ?_⟩
        refine sp_isWay (r := t + 1) hKN hd (by omega) hs (fun hor mrs2 mrk2 mfe2 mus2 => ⟨fun _ => ih _ _ _ _ (by omega) (fun r2 l1 l2 hall => ?_), fun q => absurd rfl q⟩) (fun hall hre rs rk mrk2 mfe2 mus2 w e1 e2 e3 e4 e5 => ⟨fun q => absurd q (by decide), fun _ => h1 (Rc_mono (fun i _ => spN_mono) hre) rs rk mrk2 mfe2 mus2 (spN mno mst T (t + 1)) w e1 e2 (sel (t + 1) (by omega) hall hno) hre e3 e4 e5⟩)
        by_cases e : r2 = t + 1
        · subst e
          rcases hor with h | h
          · exact absurd hall h
          · exact h
        · exact hno r2 (by omega) l2 hall
    exact lp 20 mrs mrk mfe mus (by omega) (fun r2 h1 h2 => by omega)
  · have em : m = 0 := (nI_z (by omega)).mp q
    refine sp_isWay (r := 0) hKN hd (by omega) hs (fun hor => h0 ?_) (fun hall hre rs rk mrk2 mfe2 mus2 w e1 e2 e3 e4 e5 => h1 hre rs rk mrk2 mfe2 mus2 (spN mno mst T 0) w e1 e2 ⟨0, by omega, fun _ _ => rfl, fun _ => rfl, fun e => by omega⟩ hre e3 e4 e5)
    rcases hor with h | h
    · exact absurd (fun i _ _ => Nat.zero_le _) h
    · exact h
theorem IsW_eq {n s : Nat} {V f w : Nat → Nat} {kn mno : Nat → Int32} (hn : n ≤ 6) (h1 : Eq6 mno kn) (h : IsW n V mno f s w) : IsW n V kn f s w :=
  ⟨fun k hk hc => h.1 k hk (by rw [h1 k (by omega)]; exact hc), fun k hk hc => h.2 k hk (by rw [h1 k (by omega)]; exact hc)⟩
theorem SPsel_eq {n m s : Nat} {V T f : Nat → Nat} {kn ks mno mst : Nat → Int32} (hn : n ≤ 6) (h1 : Eq6 mno kn) (h2 : Eq6 mst ks) (h : SPsel n m V T mno mst s f) : SPsel n m V T kn ks s f := by
  obtain ⟨r, a1, a2, a3, a4⟩ := h
  have eg : ∀ i, i < n → gvs mno mst i = gvs kn ks i := fun i hi => gvs_eq h1 h2 (by omega)
  refine ⟨r, a1, fun i hi => (a2 i hi).trans (spN_eq h1 h2 (by omega)), a3, fun e => ?_⟩
  rcases a4 e with h | ⟨h, h'⟩
  · exact Or.inl (fun i hi => by rw [← eg i hi]; exact h i hi)
  · exact Or.inr ⟨fun i hi hg => h i hi (by rw [eg i hi]; exact hg), fun r2 hlt hle hre => h' r2 hlt (fun i hi hg => hle i hi (by rw [← eg i hi]; exact hg)) ((Rc_eq hn h1 h2).mpr hre)⟩
/-- the two ways are one -/
theorem ways_one {n m s : Nat} {V T f g w u : Nat → Nat} {kn ks mno mst : Nat → Int32} (hn : n ≤ 6) (hm : m ≤ 1) (hv : ∀ i, i < n → V i ≤ 200) (h1 : Eq6 mno kn) (h2 : Eq6 mst ks) (a1 : SPsel n m V T kn ks s f) (a2 : Rc n V f s) (a3 : IsW n V kn f s w) (b1 : SPsel n m V T mno mst s g) (b2 : Rc n V g s) (b3 : IsW n V mno g s u) : ∀ k, k < n → w k = u k :=
  a3.un hv (a1.un hm (SPsel_eq hn h1 h2 b1) a2 b2) (IsW_eq hn h1 b3)

theorem ok_13 (j : Nat) (hj : j < 512) : lwOK13 (Rel j) (Rel (j + 1)) := by
  intro x1 x2 sz pr pm kv kn kr kt kb ks kj kw kg wd fw ad bk md cr ow hd mtd mnk mva mno mro mtu mbx mst mja mpr mcr mow mhd mmo mbk mca mfr mrs mrk mfe mus mgi maj h
  unfold lw_c13
  have h0 := Rel_mono j hj sz pr pm kv kn kr kt kb ks kj kw kg wd fw ad bk md cr ow hd mtd mnk mva mno mro mtu mbx mst mja mpr mcr mow mhd mmo mbk mca mfr mrs mrk mfe mus mgi maj h
  obtain ⟨n, V, R, T, P, c, o, m, ho, ⟨hK, hpm, hpr, ⟨rfl, hc, rfl, ho9, hj5, rfl, hm⟩, hhd, hfw⟩, rfl, rfl, rfl, rfl, rfl, ap, av, an, ar, au, ab, as, aj, ag, ak⟩ := h
  obtain ⟨rfl, hn, hv, hvd, hbb, hrt, hz⟩ := id hK
  have hKN := hK.toKN
  have hKM := hKN.eq6 av au
  have hRel : ∀ (kw2 : Nat → Int32) (wd2 : Nat → Nat → Int64) (fw2 : Nat → Nat → Int32) (mtd2 mrs2 : Int32) (mrk2 mfe2 mus2 : Nat → Int32), FWI fw2 → Rel (j + 1) (nI n) pr pm kv kn kr kt kb ks kj kw2 kg wd2 fw2 ad bk (nI m) (nI c) (nI o) mhd mtd2 (nI n) mva mno mro mtu mbx mst mja mpr (nI c) (nI o) mhd (nI m) mbk mca mfr mrs2 mrk2 mfe2 mus2 mgi maj := fun _ _ _ _ _ _ _ _ hf2 => ⟨n, V, R, T, P, c, o, m, ho, ⟨hK, hpm, hpr, ⟨rfl, hc, rfl, by omega, by omega, rfl, hm⟩, hhd, hf2⟩, rfl, rfl, rfl, rfl, rfl, ap, av, an, ar, au, ab, as, aj, ag, ak⟩
  unfold wp_X5_way
  unfold wp_X6_way
  rcases isK x2 n hn with ⟨k, hk, rfl⟩ | hx
  · refine sp_find_y hk hn ⟨fun e => (by cases e), fun i e hi => ?_⟩
    cases e
    by_cases hx1 : x1 < 0 ∨ (999 : Int32) < x1
    · refine sp_plan_out (by rcases hx1 with h | h; exact Or.inl h; exact Or.inr (fun q => absurd (i_le.mp q) (by have := i_lt.mp h; omega))) ⟨fun q => absurd rfl q, fun _ => ?_⟩
      refine ⟨fun _ => ⟨rfl, hRel _ _ _ _ _ _ _ _ hfw⟩, fun q => ⟨fun _ => ⟨rfl, hRel _ _ _ _ _ _ _ _ hfw⟩, fun q2 => ?_⟩⟩
      rcases hx1 with h | h
      · exact absurd h q
      · exact absurd h q2
    · have q1 : ¬ x1 < 0 := fun q => hx1 (Or.inl q)
      have q2 : ¬ (999 : Int32) < x1 := fun q => hx1 (Or.inr q)
      obtain ⟨s, hs0, rfl⟩ := nI_of q1
      have hs : s ≤ 999 := (nI_leI (b := 999) (by omega) (by omega)).mp (nlt_le q2)
      refine sp_plan hK hpm hfw hm hs (fun hno kw2 wd2 fw2 hf2 => ⟨fun q => absurd rfl q, fun _ => ⟨fun q => absurd q q1, fun _ => ⟨fun q => absurd q q2, fun _ => sp_isKind_y hk hn ⟨fun q => absurd q (by decide), fun _ => ?_⟩⟩⟩⟩) (fun kw2 wd2 fw2 f w hre hf2 e1 e2 e3 e4 => ⟨fun _ => ⟨fun q => absurd q q1, fun _ => ⟨fun q => absurd q q2, fun _ => sp_isKind_y hk hn ⟨fun q => absurd q (by decide), fun _ => ?_⟩⟩⟩, fun q => absurd q (by decide)⟩)
      · refine sp_findWay hKM hvd hm hs (fun _ mrs2 mrk2 mfe2 mus2 => ⟨fun q => absurd rfl q, fun _ => ⟨rfl, hRel _ _ _ _ _ _ _ _ hf2⟩⟩) (fun hre => absurd ((Rc_eq hn an as).mp hre) hno)
      · refine sp_findWay hKM hvd hm hs (fun hno => absurd ((Rc_eq hn an as).mpr hre) hno) (fun _ rs rk mrk2 mfe2 mus2 g u _ _ d3 d4 d5 d6 d7 => ⟨fun _ => ⟨vp_in_nI (by omega) (by omega), ?_, hRel _ _ _ _ _ _ _ _ hf2⟩, fun q => absurd q (by decide)⟩)
        rw [nI_clamp (by omega), e4 k hk, d6 k (by omega), ways_one hn hm (fun i hi => (hv i hi).2.2) an as e1 e2 e3 d3 d4 d5 k hk]
  · refine sp_find_n hn hx ⟨fun _ => ?_, fun i e => (by cases e)⟩
    exact ⟨fun _ => ⟨rfl, hRel _ _ _ _ _ _ _ _ hfw⟩, fun q => ⟨fun _ => ⟨rfl, hRel _ _ _ _ _ _ _ _ hfw⟩, fun q2 => sp_isKind_n hn hx ⟨fun _ => ⟨rfl, hRel _ _ _ _ _ _ _ _ hfw⟩, fun q => absurd rfl q⟩⟩⟩

theorem ok_14 (j : Nat) (hj : j < 512) : lwOK14 (Rel j) (Rel (j + 1)) := by
  intro x1 x2 sz pr pm kv kn kr kt kb ks kj kw kg wd fw ad bk md cr ow hd mtd mnk mva mno mro mtu mbx mst mja mpr mcr mow mhd mmo mbk mca mfr mrs mrk mfe mus mgi maj h
  unfold lw_c14
  have h0 := Rel_mono j hj sz pr pm kv kn kr kt kb ks kj kw kg wd fw ad bk md cr ow hd mtd mnk mva mno mro mtu mbx mst mja mpr mcr mow mhd mmo mbk mca mfr mrs mrk mfe mus mgi maj h
  obtain ⟨n, V, R, T, P, c, o, m, ho, ⟨hK, hpm, hpr, ⟨rfl, hc, rfl, ho9, hj5, rfl, hm⟩, hhd, hfw⟩, rfl, rfl, rfl, rfl, rfl, ap, av, an, ar, au, ab, as, aj, ag, ak⟩ := h
  obtain ⟨rfl, hn, hv, hvd, hbb, hrt, hz⟩ := id hK
  have hKN := hK.toKN
  have hKM := hKN.eq6 av au
  have hRel : ∀ (kw2 : Nat → Int32) (wd2 : Nat → Nat → Int64) (fw2 : Nat → Nat → Int32) (mtd2 mrs2 : Int32) (mrk2 mfe2 mus2 : Nat → Int32), FWI fw2 → Rel (j + 1) (nI n) pr pm kv kn kr kt kb ks kj kw2 kg wd2 fw2 ad bk (nI m) (nI c) (nI o) mhd mtd2 (nI n) mva mno mro mtu mbx mst mja mpr (nI c) (nI o) mhd (nI m) mbk mca mfr mrs2 mrk2 mfe2 mus2 mgi maj := fun _ _ _ _ _ _ _ _ hf2 => ⟨n, V, R, T, P, c, o, m, ho, ⟨hK, hpm, hpr, ⟨rfl, hc, rfl, by omega, by omega, rfl, hm⟩, hhd, hf2⟩, rfl, rfl, rfl, rfl, rfl, ap, av, an, ar, au, ab, as, aj, ag, ak⟩
  unfold wp_X5_coins
  unfold wp_X6_coins
  by_cases hx1 : x1 < 0 ∨ (999 : Int32) < x1
  · refine sp_plan_out (by rcases hx1 with h | h; exact Or.inl h; exact Or.inr (fun q => absurd (i_le.mp q) (by have := i_lt.mp h; omega))) ⟨fun _ => ?_, fun q => absurd rfl q⟩
    refine ⟨fun _ => ⟨rfl, hRel _ _ _ _ _ _ _ _ hfw⟩, fun q => ⟨fun _ => ⟨rfl, hRel _ _ _ _ _ _ _ _ hfw⟩, fun q2 => ?_⟩⟩
    rcases hx1 with h | h
    · exact absurd h q
    · exact absurd h q2
  · have q1 : ¬ x1 < 0 := fun q => hx1 (Or.inl q)
    have q2 : ¬ (999 : Int32) < x1 := fun q => hx1 (Or.inr q)
    obtain ⟨s, hs0, rfl⟩ := nI_of q1
    have hs : s ≤ 999 := (nI_leI (b := 999) (by omega) (by omega)).mp (nlt_le q2)
    refine sp_plan hK hpm hfw hm hs (fun hno kw2 wd2 fw2 hf2 => ⟨fun _ => ⟨fun q => absurd q q1, fun _ => ⟨fun q => absurd q q2, fun _ => ?_⟩⟩, fun q => absurd rfl q⟩) (fun kw2 wd2 fw2 f w hre hf2 e1 e2 e3 e4 => ⟨fun q => absurd q (by decide), fun _ => sp_inWay hn ⟨fun q => absurd q q1, fun _ => ⟨fun q => absurd q q2, fun _ => ?_⟩⟩⟩)
    · refine sp_findWay hKM hvd hm hs (fun _ mrs2 mrk2 mfe2 mus2 => ⟨fun q => absurd rfl q, fun _ => ⟨rfl, hRel _ _ _ _ _ _ _ _ hf2⟩⟩) (fun hre => absurd ((Rc_eq hn an as).mp hre) hno)
    · refine sp_findWay hKM hvd hm hs (fun hno => absurd ((Rc_eq hn an as).mpr hre) hno) (fun _ rs rk mrk2 mfe2 mus2 g u _ _ d3 d4 d5 d6 d7 => ⟨fun _ => ⟨n + 1, ?_⟩, fun q => absurd q (by decide)⟩)
      have := sp_coins30 (a := 0) (mus := mus2) (K := fun (r2 : Int32) (mtd' : Int32) (mrs' : Int32) (mrk' : Nat → Int32) (mfe' : Nat → Int32) (mus' : Nat → Int32) => isum (fun i => kw2 i) n = r2 ∧ Rel (j + 1) (nI n) pr pm kv kn kr kt kb ks kj kw2 kg wd2 fw2 ad bk (nI m) (nI c) (nI o) mhd mtd' (nI n) mva mno mro mtu mbx mst mja mpr (nI c) (nI o) mhd (nI m) mbk mca mfr mrs' mrk' mfe' mus' mgi maj) (X := fun x2_5 => isum (fun i => kw2 i) n = x2_5 ∧ Rel (j + 1) (nI n) pr pm kv kn kr kt kb ks kj kw2 kg wd2 fw2 ad bk (nI m) (nI c) (nI o) mhd 0 (nI n) mva mno mro mtu mbx mst mja mpr (nI c) (nI o) mhd (nI m) mbk mca mfr (nI rs) mrk2 mfe2 mus2 mgi maj) hn ⟨?_, hRel _ _ _ _ _ _ _ _ hf2⟩ n 0 (by omega)
      · rw [Int32.zero_add] at this
        exact this
      · rw [Int32.zero_add]
        exact isum_congr (fun i hi => by rw [e4 i hi, d6 i (by omega), ways_one hn hm (fun i hi => (hv i hi).2.2) an as e1 e2 e3 d3 d4 d5 i hi])
