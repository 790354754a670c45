/-! the simple calls -/
theorem i_lt {x y : Int32} : x < y ↔ x.toInt < y.toInt := Int32.lt_iff_toInt_lt
theorem i_le {x y : Int32} : x ≤ y ↔ x.toInt ≤ y.toInt := Int32.le_iff_toInt_le
theorem t_5 : (5 : Int32).toInt = 5 := rfl
theorem t_6 : (6 : Int32).toInt = 6 := rfl
theorem nI_z {c : Nat} (hc : c < 2 ^ 31) : nI c = 0 ↔ c = 0 := nI_eq (b := 0) hc (by omega)
theorem nI_le0 {c : Nat} (hc : c < 2 ^ 31) : nI c ≤ 0 ↔ c = 0 := by
  rw [show (0 : Int32) = nI 0 from rfl, nI_leI hc (by omega)]; omega
theorem nI_0lt {c : Nat} (hc : c < 2 ^ 31) : 0 < nI c ↔ 0 < c := by
  rw [show (0 : Int32) = nI 0 from rfl, nI_ltI (by omega) hc]
theorem st_le {f : Nat → Nat} {k x : Nat} {P : Nat → Nat → Prop} (h : ∀ i, P i (f i)) (hx : P k x) (i : Nat) : P i (st f k x i) := by
  by_cases e : i = k
  · subst e; rw [st_s]; exact hx
  · rw [st_n e]; exact h i
/-- what is in a tube changes -/
theorem KI.tube {n : Nat} {V R T : Nat → Nat} {sz : Int32} {kv kn kr kt kb ks kg : Nat → Int32} (h : KI n V R T sz kv kn kr kt kb ks kg) {k t : Nat} {x : Int32} (hx : x = nI t) (ht : t ≤ R k) : KI n V R (st T k t) sz kv kn kr (upd kt k x) kb ks kg := by
  obtain ⟨h1, h2, h3, h4, h5, h6, h7⟩ := h
  refine ⟨h1, h2, h3, h4, h5, fun i hi => ?_, h7⟩
  obtain ⟨a, b, d, e⟩ := h6 i hi
  by_cases q : i = k
  · subst q; rw [pk_us, st_s]; exact ⟨a, b, hx, ht⟩
  · rw [pk_un q, st_n q]; exact ⟨a, b, d, e⟩
theorem KI.stuck {n : Nat} {V R T : Nat → Nat} {sz : Int32} {kv kn kr kt kb ks kg : Nat → Int32} (h : KI n V R T sz kv kn kr kt kb ks kg) {k : Nat} {x : Int32} (hx : x = 0 ∨ x = 1) : KI n V R T sz kv kn kr kt kb (upd ks k x) kg := by
  obtain ⟨h1, h2, h3, h4, h5, h6, h7⟩ := h
  refine ⟨h1, h2, h3, h4, fun i hi => ?_, h6, h7⟩
  obtain ⟨a, b⟩ := h5 i hi
  by_cases q : i = k
  · subst q; rw [pk_us]; exact ⟨a, hx⟩
  · rw [pk_un q]; exact ⟨a, b⟩
theorem KI.box {n : Nat} {V R T : Nat → Nat} {sz : Int32} {kv kn kr kt kb ks kg : Nat → Int32} (h : KI n V R T sz kv kn kr kt kb ks kg) {kb2 : Nat → Int32} (hx : ∀ i, n ≤ i → i < 6 → kb2 i = 0) : KI n V R T sz kv kn kr kt kb2 ks kg := by
  obtain ⟨h1, h2, h3, h4, h5, h6, h7⟩ := h
  exact ⟨h1, h2, h3, h4, h5, h6, fun i hi hi6 => ⟨(h7 i hi hi6).1, (h7 i hi hi6).2.1, hx i hi hi6, (h7 i hi hi6).2.2.2⟩⟩

theorem ok_3 (j : Nat) (hj : j < 512) : lwOK3 (Rel j) (Rel (j + 1)) := by
  intro x1 x2 sz pr pm kv kn kr kt kb ks kj kw kg wd fw ad bk md cr ow hd mtd mnk mva mno mro mtu mbx mst mja mpr mcr mow mhd mmo mbk mca mfr mrs mrk mfe mus mgi maj h
  unfold lw_c3
  have h0 := Rel_mono j hj sz pr pm kv kn kr kt kb ks kj kw kg wd fw ad bk md cr ow hd mtd mnk mva mno mro mtu mbx mst mja mpr mcr mow mhd mmo mbk mca mfr mrs mrk mfe mus mgi maj h
  obtain ⟨n, V, R, T, P, c, o, m, ho, ⟨hK, hpm, hpr, ⟨rfl, hc, rfl, ho9, hj5, rfl, hm⟩, hhd, hfw⟩, rfl, rfl, rfl, rfl, rfl, ap, av, an, ar, au, ab, as, aj, ag, ak⟩ := h
  obtain ⟨rfl, hn, hv, hvd, hbb, hrt, hz⟩ := id hK
  unfold wp_X5_mode
  have go : ∀ m2 : Nat, m2 ≤ 1 → x1 = nI m2 → wp_X6_mode x1 mtd (nI m) (fun (r2 : Int32) (mtd' : Int32) (mmo' : Int32) => 1 = r2 ∧ Rel (j + 1) (nI n) pr pm kv kn kr kt kb ks kj kw kg wd fw ad bk x1 (nI c) (nI o) mhd mtd' (nI n) mva mno mro mtu mbx mst mja mpr (nI c) (nI o) mhd mmo' mbk mca mfr mrs mrk mfe mus mgi maj) := by
    intro m2 hm2 e
    subst e
    unfold wp_X6_mode
    refine ⟨fun q => absurd q (nI_pos (by omega)), fun _ => ⟨fun _ => ⟨rfl, ⟨n, V, R, T, P, c, o, m2, ho, ⟨hK, hpm, hpr, ⟨rfl, hc, rfl, by omega, by omega, rfl, hm2⟩, hhd, hfw⟩, rfl, rfl, rfl, rfl, rfl, ap, av, an, ar, au, ab, as, aj, ag, ak⟩⟩, fun q => absurd (nI_le (b := 1) hm2 (by omega)) q⟩⟩
  refine ⟨fun e => go 0 (by omega) e, fun e => ⟨fun e2 => go 1 (by omega) e2, fun e2 => ?_⟩⟩
  unfold wp_X6_mode
  refine ⟨fun _ => ⟨rfl, h0⟩, fun q => ⟨fun q2 => ?_, fun _ => ⟨rfl, h0⟩⟩⟩
  obtain ⟨k, hk, rfl⟩ := nI_of2 (M := 1) (n := 1) rfl q q2
  rcases (show k = 0 ∨ k = 1 by omega) with rfl | rfl
  · exact absurd rfl e
  · exact absurd rfl e2
theorem ok_2 (j : Nat) (hj : j < 512) : lwOK2 (Rel j) (Rel (j + 1)) := by
  intro x1 x2 sz pr pm kv kn kr kt kb ks kj kw kg wd fw ad bk md cr ow hd mtd mnk mva mno mro mtu mbx mst mja mpr mcr mow mhd mmo mbk mca mfr mrs mrk mfe mus mgi maj h
  unfold lw_c2
  have h0 := Rel_mono j hj sz pr pm kv kn kr kt kb ks kj kw kg wd fw ad bk md cr ow hd mtd mnk mva mno mro mtu mbx mst mja mpr mcr mow mhd mmo mbk mca mfr mrs mrk mfe mus mgi maj h
  obtain ⟨n, V, R, T, P, c, o, m, ho, ⟨hK, hpm, hpr, ⟨rfl, hc, rfl, ho9, hj5, rfl, hm⟩, hhd, hfw⟩, rfl, rfl, rfl, rfl, rfl, ap, av, an, ar, au, ab, as, aj, ag, ak⟩ := h
  obtain ⟨rfl, hn, hv, hvd, hbb, hrt, hz⟩ := id hK
  have no : (x1 < 0 ∨ (5 : Int32) < x1 ∨ x2 < 0 ∨ (300 : Int32) < x2 ∨ ¬ c = 0) → wp_X6_price x1 x2 mtd mpr (nI c) (fun (r2 : Int32) (mtd' : Int32) (mpr' : Nat → Int32) => 0 = r2 ∧ Rel (j + 1) (nI n) pr pm kv kn kr kt kb ks kj kw kg wd fw ad bk (nI m) (nI c) (nI o) mhd mtd' (nI n) mva mno mro mtu mbx mst mja mpr' (nI c) (nI o) mhd (nI m) mbk mca mfr mrs mrk mfe mus mgi maj) := by
    intro hh
    unfold wp_X6_price
    refine ⟨fun _ => ⟨rfl, h0⟩, fun q1 => ⟨fun _ => ⟨rfl, h0⟩, fun q2 => ⟨fun _ => ⟨rfl, h0⟩, fun q3 => ⟨fun _ => ⟨rfl, h0⟩, fun q4 => ⟨fun q5 => ?_, fun _ => ⟨rfl, h0⟩⟩⟩⟩⟩⟩
    rw [nI_le0 (by omega)] at q5
    rcases hh with hh | hh | hh | hh | hh
    · exact absurd hh q1
    · exact absurd hh q2
    · exact absurd hh q3
    · exact absurd hh q4
    · exact absurd q5 hh
  unfold wp_X5_price
  refine ⟨fun q1 => no (Or.inl q1), fun q1 => ⟨fun q2 => no (Or.inr (Or.inl (by rw [i_lt, t_5]; rw [i_le, t_6] at q2; omega))), fun q2 => ⟨fun q3 => no (Or.inr (Or.inr (Or.inl q3))), fun q3 => ⟨fun q4 => no (Or.inr (Or.inr (Or.inr (Or.inl q4)))), fun q4 => ⟨fun q5 => ?_, fun q5 => no (Or.inr (Or.inr (Or.inr (Or.inr (fun e => q5 (by rw [e]; rfl))))))⟩⟩⟩⟩⟩
  rw [nI_z (by omega)] at q5
  obtain ⟨k, hk, rfl⟩ := nI_of q1
  have hk6 : k < 6 := (nI_ltI (by omega) (by omega)).mp (nle_lt q2)
  obtain ⟨y, hy, rfl⟩ := nI_of q3
  have hy3 : y ≤ 300 := (nI_leI (b := 300) (by omega) (by omega)).mp (nlt_le q4)
  have hin : vp_in (nI k) 6 := vp_in_nI hk6 (by omega)
  refine ⟨hin, ?_⟩
  rw [nI_clamp (by omega)]
  unfold wp_X6_price
  refine ⟨fun q => absurd q q1, fun _ => ⟨fun q => absurd q (nI_nlt (a := 5) (by omega) (by omega)), fun _ => ⟨fun q => absurd q q3, fun _ => ⟨fun q => absurd q q4, fun _ => ⟨fun _ => ⟨hin, ?_⟩, fun q => absurd ((nI_le0 (by omega)).mpr q5) q⟩⟩⟩⟩⟩
  rw [nI_clamp (by omega)]
  refine ⟨rfl, ⟨n, V, R, T, st P k y, c, o, m, ho, ⟨hK, hpm, ?_, ⟨rfl, hc, rfl, by omega, by omega, rfl, hm⟩, hhd, hfw⟩, rfl, rfl, rfl, rfl, rfl, ap.up, av, an, ar, au, ab, as, aj, ag, ak⟩⟩
  intro p hp
  by_cases e : p = k
  · subst e; rw [pk_us, st_s]; exact ⟨rfl, hy3⟩
  · rw [pk_un e, st_n e]; exact hpr p hp
theorem ok_20 (j : Nat) (hj : j < 512) : lwOK20 (Rel j) (Rel (j + 1)) := by
  intro x1 x2 sz pr pm kv kn kr kt kb ks kj kw kg wd fw ad bk md cr ow hd mtd mnk mva mno mro mtu mbx mst mja mpr mcr mow mhd mmo mbk mca mfr mrs mrk mfe mus mgi maj h
  unfold lw_c20
  have h0 := Rel_mono j hj sz pr pm kv kn kr kt kb ks kj kw kg wd fw ad bk md cr ow hd mtd mnk mva mno mro mtu mbx mst mja mpr mcr mow mhd mmo mbk mca mfr mrs mrk mfe mus mgi maj h
  obtain ⟨n, V, R, T, P, c, o, m, ho, ⟨hK, hpm, hpr, ⟨rfl, hc, rfl, ho9, hj5, rfl, hm⟩, hhd, hfw⟩, rfl, rfl, rfl, rfl, rfl, ap, av, an, ar, au, ab, as, aj, ag, ak⟩ := h
  obtain ⟨rfl, hn, hv, hvd, hbb, hrt, hz⟩ := id hK
  unfold wp_X5_priced
  refine ⟨fun q1 => ?_, fun q1 => ⟨fun q2 => ?_, fun q2 => ?_⟩⟩
  · exact ⟨fun _ => ⟨rfl, h0⟩, fun q => absurd q1 q⟩
  · obtain ⟨k, hk, rfl⟩ := nI_of q1
    have hk6 : k < 6 := (nI_ltI (by omega) (by omega)).mp q2
    have hin : vp_in (nI k) 6 := vp_in_nI hk6 (by omega)
    refine ⟨hin, ?_⟩
    unfold wp_X6_priced
    refine ⟨fun q => absurd q q1, fun _ => ⟨fun _ => ⟨hin, ?_, h0⟩, fun q => absurd (nI_le (b := 5) (by omega) (by omega)) q⟩⟩
    rw [nI_clamp (by omega)]
    exact (ap k hk6).symm
  · unfold wp_X6_priced
    refine ⟨fun q => absurd q q1, fun _ => ⟨fun q => absurd (show x1 < 6 by rw [i_lt, t_6]; rw [i_le, t_5] at q; omega) q2, fun _ => ⟨rfl, h0⟩⟩⟩
theorem ok_12 (j : Nat) (hj : j < 512) : lwOK12 (Rel j) (Rel (j + 1)) := by
  intro x1 x2 sz pr pm kv kn kr kt kb ks kj kw kg wd fw ad bk md cr ow hd mtd mnk mva mno mro mtu mbx mst mja mpr mcr mow mhd mmo mbk mca mfr mrs mrk mfe mus mgi maj h
  unfold lw_c12
  have h0 := Rel_mono j hj sz pr pm kv kn kr kt kb ks kj kw kg wd fw ad bk md cr ow hd mtd mnk mva mno mro mtu mbx mst mja mpr mcr mow mhd mmo mbk mca mfr mrs mrk mfe mus mgi maj h
  obtain ⟨n, V, R, T, P, c, o, m, ho, ⟨hK, hpm, hpr, ⟨rfl, hc, rfl, ho9, hj5, rfl, hm⟩, hhd, hfw⟩, rfl, rfl, rfl, rfl, rfl, ap, av, an, ar, au, ab, as, aj, ag, ak⟩ := h
  obtain ⟨rfl, hn, hv, hvd, hbb, hrt, hz⟩ := id hK
  unfold wp_X5_gave wp_X6_gave
  rcases isK x1 n hn with ⟨k, hk, rfl⟩ | hx
  · refine sp_find_y hk hn ⟨fun e => (by cases e), fun i e _ => ?_⟩
    cases e
    refine sp_isKind_y hk hn ⟨fun e => absurd e (by decide), fun _ => ⟨vp_in_nI (by omega) (by omega), ?_, h0⟩⟩
    rw [nI_clamp (by omega)]
    exact (ag k (by omega)).symm
  · exact sp_find_n hn hx ⟨fun _ => sp_isKind_n hn hx ⟨fun _ => ⟨rfl, h0⟩, fun e => absurd rfl e⟩, fun i e => (by cases e)⟩
theorem ok_6 (j : Nat) (hj : j < 512) : lwOK6 (Rel j) (Rel (j + 1)) := by
  intro x1 x2 sz pr pm kv kn kr kt kb ks kj kw kg wd fw ad bk md cr ow hd mtd mnk mva mno mro mtu mbx mst mja mpr mcr mow mhd mmo mbk mca mfr mrs mrk mfe mus mgi maj h
  unfold lw_c6
  have h0 := Rel_mono j hj sz pr pm kv kn kr kt kb ks kj kw kg wd fw ad bk md cr ow hd mtd mnk mva mno mro mtu mbx mst mja mpr mcr mow mhd mmo mbk mca mfr mrs mrk mfe mus mgi maj h
  obtain ⟨n, V, R, T, P, c, o, m, ho, ⟨hK, hpm, hpr, ⟨rfl, hc, rfl, ho9, hj5, rfl, hm⟩, hhd, hfw⟩, rfl, rfl, rfl, rfl, rfl, ap, av, an, ar, au, ab, as, aj, ag, ak⟩ := h
  obtain ⟨rfl, hn, hv, hvd, hbb, hrt, hz⟩ := id hK
  unfold wp_X5_jam wp_X6_jam
  rcases isC x1 n hn kn with ⟨k, hk, rfl, hck⟩ | hx
  · have hin : vp_in (nI k) 6 := vp_in_nI (by omega) (by omega)
    have hcm : mno k = 0 := (an k (by omega)).trans hck
    refine sp_findCoin_y hk hn hck ⟨fun e => (by cases e), fun i e _ => ?_⟩
    cases e
    refine ⟨fun q => ?_, fun q => ⟨fun q2 => ?_, fun q2 => ?_⟩⟩
    · exact sp_isCoin_y hk hn hcm ⟨fun e => absurd e (by decide), fun _ => ⟨fun _ => ⟨rfl, h0⟩, fun q3 => absurd q q3⟩⟩
    · refine sp_isCoin_y hk hn hcm ⟨fun e => absurd e (by decide), fun _ => ⟨fun q3 => absurd q3 q, fun _ => ⟨fun _ => ⟨hin, rfl, ⟨n, V, R, T, P, c, o, m, ho, ⟨hK, hpm, hpr, ⟨rfl, hc, rfl, by omega, by omega, rfl, hm⟩, hhd, hfw⟩, rfl, rfl, rfl, rfl, rfl, ap, av, an, ar, au, ab, as, ?_, ag, ak⟩⟩, fun q3 => absurd q2 q3⟩⟩⟩
      rw [nI_clamp (by omega)]
      exact aj.up
    · exact sp_isCoin_y hk hn hcm ⟨fun e => absurd e (by decide), fun _ => ⟨fun q3 => absurd q3 q, fun _ => ⟨fun q3 => absurd q3 q2, fun _ => ⟨rfl, h0⟩⟩⟩⟩
  · exact sp_findCoin_n hn hx ⟨fun _ => sp_isCoin_n hn (fun k hk e => by rw [an k (by omega)]; exact hx k hk e) ⟨fun _ => ⟨rfl, h0⟩, fun e => absurd rfl e⟩, fun i e => (by cases e)⟩
theorem ok_5 (j : Nat) (hj : j < 512) : lwOK5 (Rel j) (Rel (j + 1)) := by
  intro x1 x2 sz pr pm kv kn kr kt kb ks kj kw kg wd fw ad bk md cr ow hd mtd mnk mva mno mro mtu mbx mst mja mpr mcr mow mhd mmo mbk mca mfr mrs mrk mfe mus mgi maj hx2 h
  unfold lw_c5
  have h0 := Rel_mono j hj sz pr pm kv kn kr kt kb ks kj kw kg wd fw ad bk md cr ow hd mtd mnk mva mno mro mtu mbx mst mja mpr mcr mow mhd mmo mbk mca mfr mrs mrk mfe mus mgi maj h
  obtain ⟨n, V, R, T, P, c, o, m, ho, ⟨hK, hpm, hpr, ⟨rfl, hc, rfl, ho9, hj5, rfl, hm⟩, hhd, hfw⟩, rfl, rfl, rfl, rfl, rfl, ap, av, an, ar, au, ab, as, aj, ag, ak⟩ := h
  obtain ⟨rfl, hn, hv, hvd, hbb, hrt, hz⟩ := id hK
  unfold wp_X5_stuck wp_X6_stuck
  rcases isC x1 n hn kn with ⟨k, hk, rfl, hck⟩ | hx
  · have hin : vp_in (nI k) 6 := vp_in_nI (by omega) (by omega)
    have hcm : mno k = 0 := (an k (by omega)).trans hck
    have hst := as k (by omega)
    refine sp_findCoin_y hk hn hck ⟨fun e => (by cases e), fun i e _ => ?_⟩
    cases e
    refine ⟨fun q => ?_, fun q => ?_⟩
    · refine sp_isCoin_y hk hn hcm ⟨fun e => absurd e (by decide), fun _ => ⟨hin, ?_⟩⟩
      rw [nI_clamp (by omega)]
      refine ⟨fun _ => ⟨hin, rfl, ⟨n, V, R, T, P, c, o, m, ho, ⟨hK.stuck hx2, hpm, hpr, ⟨rfl, hc, rfl, by omega, by omega, rfl, hm⟩, hhd, hfw⟩, rfl, rfl, rfl, rfl, rfl, ap, av, an, ar, au, ab, as.up, aj, ag, ak⟩⟩, fun q3 => absurd (hst.symm.trans q3) q⟩
    · refine sp_isCoin_y hk hn hcm ⟨fun e => absurd e (by decide), fun _ => ⟨hin, ?_⟩⟩
      rw [nI_clamp (by omega)]
      exact ⟨fun q3 => absurd (hst.trans q) q3, fun _ => ⟨rfl, h0⟩⟩
  · exact sp_findCoin_n hn hx ⟨fun _ => sp_isCoin_n hn (fun k hk e => by rw [an k (by omega)]; exact hx k hk e) ⟨fun _ => ⟨rfl, h0⟩, fun e => absurd rfl e⟩, fun i e => (by cases e)⟩
theorem ok_4 (j : Nat) (hj : j < 512) : lwOK4 (Rel j) (Rel (j + 1)) := by
  intro x1 x2 sz pr pm kv kn kr kt kb ks kj kw kg wd fw ad bk md cr ow hd mtd mnk mva mno mro mtu mbx mst mja mpr mcr mow mhd mmo mbk mca mfr mrs mrk mfe mus mgi maj h
  unfold lw_c4
  have h0 := Rel_mono j hj sz pr pm kv kn kr kt kb ks kj kw kg wd fw ad bk md cr ow hd mtd mnk mva mno mro mtu mbx mst mja mpr mcr mow mhd mmo mbk mca mfr mrs mrk mfe mus mgi maj h
  obtain ⟨n, V, R, T, P, c, o, m, ho, ⟨hK, hpm, hpr, ⟨rfl, hc, rfl, ho9, hj5, rfl, hm⟩, hhd, hfw⟩, rfl, rfl, rfl, rfl, rfl, ap, av, an, ar, au, ab, as, aj, ag, ak⟩ := h
  obtain ⟨rfl, hn, hv, hvd, hbb, hrt, hz⟩ := id hK
  unfold wp_X5_fill wp_X6_fill
  rcases isC x1 n hn kn with ⟨k, hk, rfl, hck⟩ | hx
  · have hin : vp_in (nI k) 6 := vp_in_nI (by omega) (by omega)
    have hcm : mno k = 0 := (an k (by omega)).trans hck
    obtain ⟨r1, r2, t1, t2⟩ := hrt k (by omega)
    refine sp_findCoin_y hk hn hck ⟨fun e => (by cases e), fun i e _ => ?_⟩
    cases e
    refine ⟨fun q => ?_, fun q => ?_⟩
    · exact sp_isCoin_y hk hn hcm ⟨fun e => absurd e (by decide), fun _ => ⟨fun _ => ⟨rfl, h0⟩, fun q3 => absurd q q3⟩⟩
    · obtain ⟨y, hy, rfl⟩ := nI_of q
      unfold wp_X0_free
      refine ⟨fun q2 => ⟨vp_in_l (by decide), vp_in_l (by decide), ?_⟩, fun q2 => ?_⟩
      · refine sp_isCoin_y hk hn hcm ⟨fun e => absurd e (by decide), fun _ => ⟨fun q3 => absurd q3 q, fun _ => ⟨hin, hin, ?_⟩⟩⟩
        rw [nI_clamp (by omega), ar k (by omega), au k (by omega), av k (by omega)]
        refine ⟨fun _ => ⟨hin, hin, vp_in_l (by decide), hin, vp_in_l (by decide), rfl, ?_⟩, fun q3 => absurd q2 q3⟩
        have hyr : y ≤ R k - T k := by
          rw [r1, t1, pk_sub t2, nI_leI (by omega) (by omega)] at q2
          exact q2
        refine ⟨n, V, R, st T k (T k + y), P, c, o, m, ho, ⟨hK.tube (by rw [t1, nI_add]) (by omega), hpm, hpr, ⟨rfl, hc, rfl, by omega, by omega, rfl, hm⟩, hhd, hfw⟩, rfl, rfl, rfl, rfl, rfl, ap, av, an, ar, au.up, ab, as, aj, ag, ak.up2 (by rw [ak _ (by decide)])⟩
      · refine sp_isCoin_y hk hn hcm ⟨fun e => absurd e (by decide), fun _ => ⟨fun q3 => absurd q3 q, fun _ => ⟨hin, hin, ?_⟩⟩⟩
        rw [nI_clamp (by omega), ar k (by omega), au k (by omega)]
        exact ⟨fun q3 => absurd q3 q2, fun _ => ⟨rfl, h0⟩⟩
  · exact sp_findCoin_n hn hx ⟨fun _ => sp_isCoin_n hn (fun k hk e => by rw [an k (by omega)]; exact hx k hk e) ⟨fun _ => ⟨rfl, h0⟩, fun e => absurd rfl e⟩, fun i e => (by cases e)⟩
theorem ok_22 (j : Nat) (hj : j < 512) : lwOK22 (Rel j) (Rel (j + 1)) := by
  intro x1 x2 sz pr pm kv kn kr kt kb ks kj kw kg wd fw ad bk md cr ow hd mtd mnk mva mno mro mtu mbx mst mja mpr mcr mow mhd mmo mbk mca mfr mrs mrk mfe mus mgi maj h
  unfold lw_c22
  have h0 := Rel_mono j hj sz pr pm kv kn kr kt kb ks kj kw kg wd fw ad bk md cr ow hd mtd mnk mva mno mro mtu mbx mst mja mpr mcr mow mhd mmo mbk mca mfr mrs mrk mfe mus mgi maj h
  obtain ⟨n, V, R, T, P, c, o, m, ho, ⟨hK, hpm, hpr, ⟨rfl, hc, rfl, ho9, hj5, rfl, hm⟩, hhd, hfw⟩, rfl, rfl, rfl, rfl, rfl, ap, av, an, ar, au, ab, as, aj, ag, ak⟩ := h
  obtain ⟨rfl, hn, hv, hvd, hbb, hrt, hz⟩ := id hK
  unfold wp_X5_drain wp_X6_drain
  rcases isC x1 n hn kn with ⟨k, hk, rfl, hck⟩ | hx
  · have hin : vp_in (nI k) 6 := vp_in_nI (by omega) (by omega)
    have hcm : mno k = 0 := (an k (by omega)).trans hck
    obtain ⟨r1, r2, t1, t2⟩ := hrt k (by omega)
    refine sp_findCoin_y hk hn hck ⟨fun e => (by cases e), fun i e _ => ?_⟩
    cases e
    refine ⟨fun q => ?_, fun q => ⟨fun q2 => ?_, fun q2 => ?_⟩⟩
    · exact sp_isCoin_y hk hn hcm ⟨fun e => absurd e (by decide), fun _ => ⟨fun _ => ⟨rfl, h0⟩, fun q3 => absurd q q3⟩⟩
    rotate_left
    · obtain ⟨y, hy, rfl⟩ := nI_of q
      refine ⟨fun q4 => ⟨vp_in_l (by decide), vp_in_l (by decide), ?_⟩, fun q4 => ?_⟩
      · refine sp_isCoin_y hk hn hcm ⟨fun e => absurd e (by decide), fun _ => ⟨fun q3 => absurd q3 q, fun _ => ⟨hin, ?_⟩⟩⟩
        rw [nI_clamp (by omega), au k (by omega), av k (by omega)]
        have hyr : y ≤ T k := by
          rw [t1] at q2
          rcases Nat.lt_or_ge (T k) y with q | q
          · exact absurd (nI_lt q (by omega)) q2
          · exact q
        refine ⟨fun q3 => absurd q3 (by rw [t1]; exact nI_nlt hyr (by omega)), fun _ => ⟨fun _ => ⟨hin, hin, vp_in_l (by decide), hin, vp_in_l (by decide), rfl, ⟨n, V, R, st T k (T k - y), P, c, o, m, ho, ⟨hK.tube (by rw [t1, pk_sub hyr]) (by omega), hpm, hpr, ⟨rfl, hc, rfl, by omega, by omega, rfl, hm⟩, hhd, hfw⟩, rfl, rfl, rfl, rfl, rfl, ap, av, an, ar, au.up, ab, as, aj, ag, ak.up2 (by rw [ak _ (by decide)])⟩⟩, fun q3 => absurd ((nI_le0 (by omega)).mpr ((nI_z (by omega)).mp q4)) q3⟩⟩
      · refine sp_isCoin_y hk hn hcm ⟨fun e => absurd e (by decide), fun _ => ⟨fun q3 => absurd q3 q, fun _ => ⟨hin, ?_⟩⟩⟩
        rw [nI_clamp (by omega), au k (by omega)]
        refine ⟨fun _ => ⟨rfl, h0⟩, fun _ => ⟨fun q3 => absurd ((nI_z (by omega)).mpr ((nI_le0 (by omega)).mp q3)) q4, fun _ => ⟨rfl, h0⟩⟩⟩
    · refine sp_isCoin_y hk hn hcm ⟨fun e => absurd e (by decide), fun _ => ⟨fun q3 => absurd q3 q, fun _ => ⟨hin, ?_⟩⟩⟩
      rw [nI_clamp (by omega), au k (by omega)]
      exact ⟨fun _ => ⟨rfl, h0⟩, fun q3 => absurd q2 q3⟩
  · exact sp_findCoin_n hn hx ⟨fun _ => sp_isCoin_n hn (fun k hk e => by rw [an k (by omega)]; exact hx k hk e) ⟨fun _ => ⟨rfl, h0⟩, fun e => absurd rfl e⟩, fun i e => (by cases e)⟩
