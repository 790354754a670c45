/-! takes, put, givable -/
theorem gvs_eq {kn ks mno mst : Nat → Int32} (h1 : Eq6 mno kn) (h2 : Eq6 mst ks) {i : Nat} (hi : i < 6) : gvs mno mst i = gvs kn ks i := by
  unfold gvs; rw [h1 i hi, h2 i hi]
theorem spN_eq {kn ks mno mst : Nat → Int32} (h1 : Eq6 mno kn) (h2 : Eq6 mst ks) {T : Nat → Nat} {r i : Nat} (hi : i < 6) : spN mno mst T r i = spN kn ks T r i := by
  unfold spN; rw [gvs_eq h1 h2 hi]
theorem Rc_eq {n : Nat} (hn : n ≤ 6) {V T : Nat → Nat} {r s : Nat} {kn ks mno mst : Nat → Int32} (h1 : Eq6 mno kn) (h2 : Eq6 mst ks) : Rc n V (spN mno mst T r) s ↔ Rc n V (spN kn ks T r) s := Rc_congr (fun i hi => spN_eq h1 h2 (by omega))
theorem Tk_eq {n k c nv : Nat} (hn : n ≤ 6) (hk : k < n) {V R T P : Nat → Nat} {kn ks mno mst : Nat → Int32} (h1 : Eq6 mno kn) (h2 : Eq6 mst ks) : Tk n V R T P mno mst k c nv ↔ Tk n V R T P kn ks k c nv := by
  unfold Tk T2f
  rw [h1 k (by omega)]
  constructor
  · rintro ⟨a, b⟩; exact ⟨a, (MTp_congr (fun s _ => Rc_eq hn h1 h2)).mp b⟩
  · rintro ⟨a, b⟩; exact ⟨a, (MTp_congr (fun s _ => Rc_eq hn h1 h2)).mpr b⟩
theorem KI.toKN {n : Nat} {V R T : Nat → Nat} {sz : Int32} {kv kn kr kt kb ks kg : Nat → Int32} (h : KI n V R T sz kv kn kr kt kb ks kg) : KN n V T sz kv kt := by
  obtain ⟨h1, h2, h3, h4, h5, h6, h7⟩ := h
  exact ⟨h1, h2, h3, fun i hi => ⟨(h6 i (by omega)).2.2.1, by have := h6 i (by omega); omega⟩⟩
theorem KN.eq6 {n : Nat} {V T : Nat → Nat} {sz : Int32} {kv kt mva mtu : Nat → Int32} (h : KN n V T sz kv kt) (h1 : Eq6 mva kv) (h2 : Eq6 mtu kt) : KN n V T sz mva mtu := by
  obtain ⟨a, b, c, d⟩ := h
  exact ⟨a, b, fun i hi => by rw [h1 i (by omega)]; exact c i hi, fun i hi => by rw [h2 i (by omega)]; exact d i hi⟩
def hm (f : Nat → Bool) : Nat → Nat
  | 0 => 0
  | k + 1 => hm f k + (if f (k + 1) = true then 1 else 0)
theorem hm_congr {f g : Nat → Bool} : ∀ {n : Nat}, (∀ i, 1 ≤ i → i ≤ n → f i = g i) → hm f n = hm g n
  | 0, _ => rfl
  | n + 1, h => by
    show hm f n + _ = hm g n + _
    rw [hm_congr (fun i h1 h2 => h i h1 (by omega)), h (n + 1) (by omega) (by omega)]
theorem sp_howMany {y : Nat} {j : Nat} {wd : Nat → Nat → Int64} {K : Int32 → Prop} (hy : y ≤ 999) (h : K (nI (hm (bw (wd j)) y))) : wp_X2_howMany j (nI y) wd K := by
  unfold wp_X2_howMany
  have lp : ∀ (m k : Nat), k + m = y → wp_X2_howMany_4 j (nI y) wd K (fun x => K x) (m + 1) (nI (hm (bw (wd j)) k)) (nI (k + 1)) := by
    intro m
    induction m with
    | zero =>
      intro k hk
      unfold wp_X2_howMany_4
      refine ⟨fun _ => ?_, fun q => absurd (nI_lt (by omega) (by omega)) q⟩
      rw [show k = y by omega]; exact h
    | succ m ih =>
      intro k hk
      unfold wp_X2_howMany_4
      refine ⟨fun q => absurd q (nI_nlt (by omega) (by omega)), fun _ => ⟨fun q => absurd q (nI_nlt (a := 999) (by omega) (by omega)), fun _ => ?_⟩⟩
      have := ih (k + 1) (by omega)
      rw [nI_1]
      refine sp_has (by omega) ⟨fun q => ?_, fun q => ?_⟩
      · rw [b2_0] at q
        have e : hm (bw (wd j)) (k + 1) = hm (bw (wd j)) k := by show _ + _ = _; rw [if_neg (by rw [q]; decide)]; rfl
        rw [e] at this; exact this
      · rw [b2_n0] at q
        have e : hm (bw (wd j)) (k + 1) = hm (bw (wd j)) k + 1 := by show _ + _ = _; rw [if_pos q]
        rw [e] at this; rw [nI_1]; exact this
  exact ⟨y + 1, lp y 0 (by omega)⟩
theorem sp_giv26 {y : Nat} {mca : Nat → Int32} {K : Int32 → Int32 → (Nat → Int32) → (Nat → Int32) → Prop} {X : Int32 → Prop} (hy : y ≤ 999) (h : X (nI (hm (fun s => !decide (mca s = 0)) y))) : wp_X6_givable_26 (nI y) mca K X (y + 1) 0 1 := by
  have lp : ∀ (m k : Nat), k + m = y → wp_X6_givable_26 (nI y) mca K X (m + 1) (nI (hm (fun s => !decide (mca s = 0)) k)) (nI (k + 1)) := by
    intro m
    induction m with
    | zero =>
      intro k hk
      unfold wp_X6_givable_26
      refine ⟨fun _ => ?_, fun q => absurd (nI_lt (by omega) (by omega)) q⟩
      rw [show k = y by omega]; exact h
    | succ m ih =>
      intro k hk
      unfold wp_X6_givable_26
      refine ⟨fun q => absurd q (nI_nlt (by omega) (by omega)), fun _ => ⟨vp_in_nI (by omega) (by omega), ?_⟩⟩
      have := ih (k + 1) (by omega)
      rw [nI_1, nI_clamp (by omega)]
      refine ⟨fun q => ?_, fun q => ?_⟩
      · have e : hm (fun s => !decide (mca s = 0)) (k + 1) = hm (fun s => !decide (mca s = 0)) k := by show _ + _ = _; rw [if_neg (by simp [q])]; rfl
        rw [e] at this; exact this
      · have e : hm (fun s => !decide (mca s = 0)) (k + 1) = hm (fun s => !decide (mca s = 0)) k + 1 := by show _ + _ = _; rw [if_pos (by simp [q])]
        rw [e] at this; rw [nI_1]; exact this
  exact lp y 0 (by omega)

theorem ok_15 (j : Nat) (hj : j < 512) : lwOK15 (Rel j) (Rel (j + 1)) := by
  intro x1 x2 sz pr pm kv kn kr kt kb ks kj kw kg wd fw ad bk md cr ow hd mtd mnk mva mno mro mtu mbx mst mja mpr mcr mow mhd mmo mbk mca mfr mrs mrk mfe mus mgi maj h
  unfold lw_c15
  have h0 := Rel_mono j hj sz pr pm kv kn kr kt kb ks kj kw kg wd fw ad bk md cr ow hd mtd mnk mva mno mro mtu mbx mst mja mpr mcr mow mhd mmo mbk mca mfr mrs mrk mfe mus mgi maj h
  obtain ⟨n, V, R, T, P, c, o, m, ho, ⟨hK, hpm, hpr, ⟨rfl, hc, rfl, ho9, hj5, rfl, hm⟩, hhd, hfw⟩, rfl, rfl, rfl, rfl, rfl, ap, av, an, ar, au, ab, as, aj, ag, ak⟩ := h
  obtain ⟨rfl, hn, hv, hvd, hbb, hrt, hz⟩ := id hK
  have hKN := hK.toKN
  unfold wp_X5_givable
  refine ⟨fun q1 => ?_, fun q1 => ⟨fun q2 => ?_, fun q2 => ?_⟩⟩
  · exact ⟨fun _ => ⟨rfl, h0⟩, fun q => absurd q1 q⟩
  · obtain ⟨y, hy, rfl⟩ := nI_of2 (M := 999) (n := 999) rfl q1 q2
    refine sp_collect (r := 0) hKN (by omega) (fun wd2 _ hw => sp_howMany hy ?_)
    unfold wp_X6_givable
    refine ⟨fun q => absurd q q1, fun _ => ⟨fun _ => ?_, fun q => absurd q2 q⟩⟩
    refine sp_findSums (hKN.eq6 av au) (fun m2 f2 hca => ⟨y + 1, sp_giv26 hy ⟨?_, ⟨n, V, R, T, P, c, o, m, ho, ⟨hK, hpm, hpr, ⟨rfl, hc, rfl, by omega, by omega, rfl, hm⟩, hhd, hfw⟩, rfl, rfl, rfl, rfl, rfl, ap, av, an, ar, au, ab, as, aj, ag, ak⟩⟩⟩)
    congr 1
    refine hm_congr (fun s hs1 hs2 => ?_)
    have e : bw (wd2 0) s = true ↔ ¬ m2 s = 0 := (hw s (by omega)).trans ((Rc_eq hn an as).symm.trans (hca.ne0 (by omega)).symm)
    by_cases q : m2 s = 0
    · have : ¬ bw (wd2 0) s = true := fun t => e.mp t q
      simp [q, this]
    · simp [q, e.mpr q]
  · exact ⟨fun _ => ⟨rfl, h0⟩, fun _ => ⟨fun q => absurd q q2, fun _ => ⟨rfl, h0⟩⟩⟩
theorem ok_8 (j : Nat) (hj : j < 512) : lwOK8 (Rel j) (Rel (j + 1)) := by
  intro x1 x2 sz pr pm kv kn kr kt kb ks kj kw kg wd fw ad bk md cr ow hd mtd mnk mva mno mro mtu mbx mst mja mpr mcr mow mhd mmo mbk mca mfr mrs mrk mfe mus mgi maj h
  unfold lw_c8
  have h0 := Rel_mono j hj sz pr pm kv kn kr kt kb ks kj kw kg wd fw ad bk md cr ow hd mtd mnk mva mno mro mtu mbx mst mja mpr mcr mow mhd mmo mbk mca mfr mrs mrk mfe mus mgi maj h
  obtain ⟨n, V, R, T, P, c, o, m, ho, ⟨hK, hpm, hpr, ⟨rfl, hc, rfl, ho9, hj5, rfl, hm⟩, hhd, hfw⟩, rfl, rfl, rfl, rfl, rfl, ap, av, an, ar, au, ab, as, aj, ag, ak⟩ := h
  obtain ⟨rfl, hn, hv, hvd, hbb, hrt, hz⟩ := id hK
  have hKN := hK.toKN
  have hvm : ∀ i, i < n → mva i = nI (V i) := fun i hi => (av i (by omega)).trans (hv i hi).1
  have hprm : PRI P mpr := fun p hp => by rw [ap p hp]; exact hpr p hp
  unfold wp_X5_takes wp_X6_takes
  rcases isK x1 n hn with ⟨k, hk, rfl⟩ | hx
  · refine sp_find_y hk hn ⟨fun e => (by cases e), fun i e _ => ?_⟩
    cases e
    obtain ⟨r1, r2, t1, t2⟩ := hrt k (by omega)
    have mod : ∀ r : Int32, (Tk n V R T P kn ks k c (hval V ho) → r = 1) → (¬ Tk n V R T P kn ks k c (hval V ho) → r = 0) → ∀ wd2 : Nat → Nat → Int64, wp_X6_isKind (nI k) (nI n) (fun (r_1 : Int32) => ((¬ r_1 = 0 → wp_X6_heldValue mva mhd (fun (r_3 : Int32) => wp_X6_wouldTake (nI k) (nI c) r_3 (nI n) mva mno mro mtu mst mpr mca mfr (fun (r_4 : Int32) (mtu_4 : Nat → Int32) (mca_4 : Nat → Int32) (mfr_4 : Nat → Int32) => ((r_4 = 0 → r = 0 ∧ Rel (j + 1) (nI n) pr pm kv kn kr kt kb ks kj kw kg wd2 fw ad bk (nI m) (nI c) (nI o) mhd 0 (nI n) mva mno mro mtu_4 mbx mst mja mpr (nI c) (nI o) mhd (nI m) mbk mca_4 mfr_4 mrs mrk mfe mus mgi maj) ∧ (¬ r_4 = 0 → r = 1 ∧ Rel (j + 1) (nI n) pr pm kv kn kr kt kb ks kj kw kg wd2 fw ad bk (nI m) (nI c) (nI o) mhd 0 (nI n) mva mno mro mtu_4 mbx mst mja mpr (nI c) (nI o) mhd (nI m) mbk mca_4 mfr_4 mrs mrk mfe mus mgi maj))))) ∧ (r_1 = 0 → r = -1 ∧ Rel (j + 1) (nI n) pr pm kv kn kr kt kb ks kj kw kg wd2 fw ad bk (nI m) (nI c) (nI o) mhd 0 (nI n) mva mno mro mtu mbx mst mja mpr (nI c) (nI o) mhd (nI m) mbk mca mfr mrs mrk mfe mus mgi maj))) := by
      intro r hr1 hr0 wd2
      refine sp_isKind_y hk hn ⟨fun _ => ?_, fun q => absurd q (by decide)⟩
      refine sp_heldM hn hvm hhd ?_
      refine sp_wouldTake (hKN.eq6 av au) hk ((ar k (by omega)).trans r1) r2 t2 hprm hc (hval_le hhd) (fun ht m2 f2 => ⟨fun q => absurd q (by decide), fun _ => ⟨hr1 ((Tk_eq hn hk an as).mp ht), h0⟩⟩) (fun ht m2 f2 => ⟨fun _ => ⟨hr0 (fun q => ht ((Tk_eq hn hk an as).mpr q)), h0⟩, fun q => absurd rfl q⟩)
    exact sp_canTake hK hpr hc hhd hk (fun ht wd2 => ⟨fun q => absurd q (by decide), fun _ => mod 1 (fun _ => rfl) (fun q => absurd ht q) wd2⟩) (fun ht wd2 => ⟨fun _ => mod 0 (fun q => absurd q ht) (fun _ => rfl) wd2, fun q => absurd rfl q⟩)
  · exact sp_find_n hn hx ⟨fun _ => sp_isKind_n hn hx ⟨fun q => absurd rfl q, fun _ => ⟨rfl, h0⟩⟩, fun i e => (by cases e)⟩
theorem HDI.up {n : Nat} {V : Nat → Nat} {c d : Nat} {ho : Option Nat} {hd : Int32} {kn : Nat → Int32} (h : HDI n V c ho hd kn) (hcd : c ≤ d) : HDI n V d ho hd kn := by
  cases ho with
  | none => exact h
  | some k => exact ⟨h.1, h.2.1, h.2.2.1, Nat.le_trans h.2.2.2 hcd⟩

theorem ok_7 (j : Nat) (hj : j < 512) : lwOK7 (Rel j) (Rel (j + 1)) := by
  intro x1 x2 sz pr pm kv kn kr kt kb ks kj kw kg wd fw ad bk md cr ow hd mtd mnk mva mno mro mtu mbx mst mja mpr mcr mow mhd mmo mbk mca mfr mrs mrk mfe mus mgi maj h
  unfold lw_c7
  have h0 := Rel_mono j hj sz pr pm kv kn kr kt kb ks kj kw kg wd fw ad bk md cr ow hd mtd mnk mva mno mro mtu mbx mst mja mpr mcr mow mhd mmo mbk mca mfr mrs mrk mfe mus mgi maj h
  obtain ⟨n, V, R, T, P, c, o, m, ho, ⟨hK, hpm, hpr, ⟨rfl, hc, rfl, ho9, hj5, rfl, hm⟩, hhd, hfw⟩, rfl, rfl, rfl, rfl, rfl, ap, av, an, ar, au, ab, as, aj, ag, ak⟩ := h
  obtain ⟨rfl, hn, hv, hvd, hbb, hrt, hz⟩ := id hK
  have hKN := hK.toKN
  have hvm : ∀ i, i < n → mva i = nI (V i) := fun i hi => (av i (by omega)).trans (hv i hi).1
  have hprm : PRI P mpr := fun p hp => by rw [ap p hp]; exact hpr p hp
  unfold wp_X5_put wp_X6_put
  rcases isK x1 n hn with ⟨k, hk, rfl⟩ | hx
  · have hin : vp_in (nI k) 6 := vp_in_nI (by omega) (by omega)
    have hz0 : vp_in (0 : Int32) 6 := vp_in_l (by decide)
    refine sp_find_y hk hn ⟨fun e => (by cases e), fun i e _ => ?_⟩
    cases e
    obtain ⟨r1, r2, t1, t2⟩ := hrt k (by omega)
    obtain ⟨v1, v2, v3⟩ := hv k hk
    have hclk : (nI k).toNatClampNeg = k := nI_clamp (by omega)
    refine sp_canTake hK hpr hc hhd hk (fun ht wd2 => ⟨fun _ => ⟨hz0, hz0, ?_⟩, fun q => absurd q (by decide)⟩) (fun ht wd2 => ⟨fun q => absurd rfl q, fun _ => ?_⟩)
    · have hct : c + V k ≤ 999 := ht.2.1
      have htm := (Tk_eq hn hk an as).mpr ht
      refine ⟨fun q => ?_, fun q => ?_⟩
      · have qm : mno k = 0 := (an k (by omega)).trans q
        unfold wp_X0_free
        rw [r1, t1, pk_sub t2]
        refine ⟨fun q2 => ?_, fun q2 => ?_⟩
        all_goals rw [nI_le0 (by omega)] at q2
        · refine sp_isKind_y hk hn ⟨fun _ => sp_heldM hn hvm hhd ?_, fun q => absurd q (by decide)⟩
          refine sp_wouldTake (hKN.eq6 av au) hk ((ar k (by omega)).trans r1) r2 t2 hprm hc (hval_le hhd) (fun _ m2 f2 => ⟨fun _ => ⟨hin, hz0, hin, hz0, hin, ?_⟩, fun q => absurd q (by decide)⟩) (fun hq => absurd htm hq)
          rw [hclk, av k (by omega), ar k (by omega), au k (by omega), r1, t1, v1, nI_add]
          refine ⟨fun _ => ⟨hin, hin, fun _ => ⟨hin, hin, rfl, ⟨n, V, R, T, P, c + V k, o, m, ho, ⟨hK.box (fun i hi1 hi2 => by rw [pk_un (by omega)]; exact (hz i hi1 hi2).2.2.1), hpm, hpr, ⟨rfl, hct, rfl, by omega, by omega, rfl, hm⟩, hhd.up (by omega), hfw⟩, rfl, rfl, rfl, rfl, rfl, ap, av, an, ar, au, ab.up2 (by rw [ab k (by omega)]), as, aj, ag, ak.up2 (by rw [ak _ (by decide)])⟩⟩, fun q3 => absurd (nI_le (by omega) (by omega)) q3⟩, fun q3 => absurd qm q3⟩
        · refine sp_isKind_y hk hn ⟨fun _ => sp_heldM hn hvm hhd ?_, fun q => absurd q (by decide)⟩
          refine sp_wouldTake (hKN.eq6 av au) hk ((ar k (by omega)).trans r1) r2 t2 hprm hc (hval_le hhd) (fun _ m2 f2 => ⟨fun _ => ⟨hin, hz0, hin, hz0, hin, ?_⟩, fun q => absurd q (by decide)⟩) (fun hq => absurd htm hq)
          rw [hclk, av k (by omega), ar k (by omega), au k (by omega), r1, t1, v1, nI_add, nI_1]
          refine ⟨fun _ => ⟨hin, hin, fun q3 => absurd q3 (nI_ge (by omega) (by omega)), fun _ => ⟨hin, hin, rfl, ⟨n, V, R, st T k (T k + 1), P, c + V k, o, m, ho, ⟨hK.tube rfl (by omega), hpm, hpr, ⟨rfl, hct, rfl, by omega, by omega, rfl, hm⟩, hhd.up (by omega), hfw⟩, rfl, rfl, rfl, rfl, rfl, ap, av, an, ar, au.up, ab, as, aj, ag, ak.up2 (by rw [ak _ (by decide)])⟩⟩⟩, fun q3 => absurd qm q3⟩
      · have qm : ¬ mno k = 0 := fun t => q ((an k (by omega)).symm.trans t)
        refine sp_isKind_y hk hn ⟨fun _ => sp_heldM hn hvm hhd ?_, fun q => absurd q (by decide)⟩
        refine sp_wouldTake (hKN.eq6 av au) hk ((ar k (by omega)).trans r1) r2 t2 hprm hc (hval_le hhd) (fun _ m2 f2 => ⟨fun _ => ⟨hin, hz0, hin, hz0, hin, ?_⟩, fun q => absurd q (by decide)⟩) (fun hq => absurd htm hq)
        rw [hclk, av k (by omega), v1, nI_add]
        exact ⟨fun q3 => absurd q3 qm, fun _ => ⟨rfl, ⟨n, V, R, T, P, c + V k, o, m, some k, ⟨hK, hpm, hpr, ⟨rfl, hct, rfl, by omega, by omega, rfl, hm⟩, ⟨rfl, hk, q, by omega⟩, hfw⟩, rfl, rfl, rfl, rfl, rfl, ap, av, an, ar, au, ab, as, aj, ag, ak.up2 (by rw [ak _ (by decide)])⟩⟩⟩
    · refine sp_isKind_y hk hn ⟨fun _ => sp_heldM hn hvm hhd ?_, fun q => absurd q (by decide)⟩
      exact sp_wouldTake (hKN.eq6 av au) hk ((ar k (by omega)).trans r1) r2 t2 hprm hc (hval_le hhd) (fun hq => absurd ((Tk_eq hn hk an as).mp hq) ht) (fun _ m2 f2 => ⟨fun q => absurd rfl q, fun _ => ⟨rfl, h0⟩⟩)
  · exact sp_find_n hn hx ⟨fun _ => sp_isKind_n hn hx ⟨fun q => absurd rfl q, fun _ => ⟨rfl, h0⟩⟩, fun i e => (by cases e)⟩
