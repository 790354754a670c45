/-! coin and note -/
theorem sp_hasValue {n v : Nat} {V : Nat → Nat} {kv : Nat → Int32} {K : Int32 → Prop} (hn : n ≤ 6) (hv : ∀ i, i < n → kv i = nI (V i) ∧ 1 ≤ V i ∧ V i ≤ 200) (hv2 : v ≤ 200) (h1 : (∃ i, i < n ∧ V i = v) → K 1) (h0 : (∀ i, i < n → ¬ V i = v) → K 0) : wp_X3_hasValue (nI v) (nI n) kv K := by
  unfold wp_X3_hasValue
  refine ⟨n + 1, ?_⟩
  have lp : ∀ (m k : Nat), k + m = n → (∀ i, i < k → ¬ V i = v) → wp_X3_hasValue_2 (nI v) (nI n) kv K (K 0) (m + 1) (nI k) := by
    intro m
    induction m with
    | zero =>
      intro k hk h
      unfold wp_X3_hasValue_2
      exact ⟨fun _ => h0 (fun i hi => h i (by omega)), fun q => absurd (nI_le (by omega) (by omega)) q⟩
    | succ m ih =>
      intro k hk h
      unfold wp_X3_hasValue_2
      refine ⟨fun q => absurd q (nI_ge (by omega) (by omega)), fun _ => ⟨vp_in_nI (by omega) (by omega), ?_⟩⟩
      rw [nI_clamp (by omega), nI_1, (hv k (by omega)).1]
      have b := (hv k (by omega)).2.2
      refine ⟨fun q => ih (k + 1) (by omega) (fun i hi => ?_), fun q => h1 ⟨k, by omega, (nI_eq (by omega) (by omega)).mp q⟩⟩
      by_cases e : i = k
      · subst e; exact fun q2 => q (by rw [q2])
      · exact h i (by omega)
  exact lp n 0 (by omega) (fun i hi => by omega)
theorem sp_canCome {n v c : Nat} {V : Nat → Nat} {mva : Nat → Int32} {K : Int32 → Prop} (hn : n ≤ 6) (hc : c ≤ 999) (hv : ∀ i, i < n → mva i = nI (V i) ∧ V i ≤ 200) (hv1 : 1 ≤ v) (hv2 : v ≤ 200) (hc0 : c = 0) (hn6 : n < 6) (h1 : (∃ i, i < n ∧ V i = v) → K 0) (h0 : (∀ i, i < n → ¬ V i = v) → K 1) : wp_X6_canCome (nI v) (nI n) mva (nI c) K := by
  unfold wp_X6_canCome
  subst hc0
  refine ⟨fun q => absurd q (nI_nlt (b := 1) hv1 (by omega)), fun _ => ⟨fun q => absurd q (nI_nlt (a := 200) hv2 (by omega)), fun _ => ⟨fun q => absurd q (by decide), fun _ => ⟨fun _ => ⟨n + 1, ?_⟩, fun q => ?_⟩⟩⟩⟩
  · have lp : ∀ (m k : Nat), k + m = n → (∀ i, i < k → ¬ V i = v) → wp_X6_canCome_32 (nI v) (nI n) mva K (K 1) (m + 1) (nI k) := by
      intro m
      induction m with
      | zero =>
        intro k hk h
        unfold wp_X6_canCome_32
        exact ⟨fun _ => h0 (fun i hi => h i (by omega)), fun q => absurd (nI_le (by omega) (by omega)) q⟩
      | succ m ih =>
        intro k hk h
        unfold wp_X6_canCome_32
        refine ⟨fun q => absurd q (nI_ge (by omega) (by omega)), fun _ => ⟨vp_in_nI (by omega) (by omega), ?_⟩⟩
        rw [nI_clamp (by omega), nI_1, (hv k (by omega)).1]
        have b := (hv k (by omega)).2
        refine ⟨fun q => ih (k + 1) (by omega) (fun i hi => ?_), fun q => h1 ⟨k, by omega, (nI_eq (by omega) (by omega)).mp q⟩⟩
        by_cases e : i = k
        · subst e; exact fun q2 => q (by rw [q2])
        · exact h i (by omega)
    exact lp n 0 (by omega) (fun i hi => by omega)
  · exact absurd ((nI_eq (b := 6) (by omega) (by omega)).mp q) (by omega)
theorem sp_canCome_n {n c : Nat} {x : Int32} {mva : Nat → Int32} {K : Int32 → Prop} (hc : c ≤ 999) (hn : n ≤ 6) (h : x < 1 ∨ (200 : Int32) < x ∨ ¬ c = 0 ∨ n = 6) (h0 : K 0) : wp_X6_canCome x (nI n) mva (nI c) K := by
  unfold wp_X6_canCome
  refine ⟨fun _ => h0, fun q1 => ⟨fun _ => h0, fun q2 => ⟨fun _ => h0, fun q3 => ⟨fun q4 => ?_, fun _ => h0⟩⟩⟩⟩
  rcases h with h | h | h | h
  · exact absurd h q1
  · exact absurd h q2
  · exact absurd ((nI_0lt (by omega)).mpr (by omega)) q3
  · exact absurd (by rw [h]; rfl) q4
/-- where a new kind comes among the others -/
theorem sp_add54 {n v i4 : Nat} {V pm : Nat → Nat} {kv : Nat → Int32} {K : Int32 → Int32 → (Nat → Nat) → (Nat → Int32) → (Nat → Int32) → (Nat → Int32) → Prop} {X : Int32 → (Nat → Nat) → Prop} (hn : n < 6) (hkv : ∀ i, i < n → kv i = nI (V i) ∧ V i ≤ 200) (hv : v ≤ 200) (hpm : PMI n V pm) (hne : ∀ i, i < n → ¬ V i = v)
    (hX : ∀ (t : Nat) (pm2 : Nat → Nat), t ≤ n → (∀ i, i < t → pm2 i = pm i) → (∀ i, t < i → i ≤ n → pm2 i = pm (i - 1)) → (∀ i, i < t → V (pm i) < v) → (∀ i, t ≤ i → i < n → v < V (pm i)) → X (nI t) pm2) :
    ∀ (t : Nat) (pm2 : Nat → Nat), t ≤ n → (∀ i, i < t → pm2 i = pm i) → (∀ i, t < i → i ≤ n → pm2 i = pm (i - 1)) → (∀ i, t ≤ i → i < n → v < V (pm i)) → wp_X3_add_54 (nI v) i4 kv K X (t + 1) (nI t) pm2 := by
  intro t
  induction t with
  | zero =>
    intro pm2 ht h1 h2 h3
    unfold wp_X3_add_54
    exact ⟨fun _ => hX 0 pm2 ht h1 h2 (fun i hi => by omega) h3, fun q => absurd (by decide) q⟩
  | succ t ih =>
    intro pm2 ht h1 h2 h3
    unfold wp_X3_add_54
    have hp := hpm.1 t (by omega)
    have hin : vp_in (nI t) 6 := vp_in_nI (by omega) (by omega)
    rw [nI_p1, nI_clamp (show t < 2 ^ 31 by omega), nI_clamp (show t + 1 < 2 ^ 31 by omega), h1 t (by omega), (hkv _ hp).1]
    have b := (hkv _ hp).2
    refine ⟨fun q => absurd q (nI_nle (by omega) (by omega)), fun _ => ⟨hin, by omega, fun q => ?_, fun q => ⟨hin, by omega, vp_in_nI (by omega) (by omega), ?_⟩⟩⟩
    · have hle : V (pm t) ≤ v := (nI_leI (by omega) (by omega)).mp q
      have hlt : V (pm t) < v := by have := hne _ hp; omega
      refine hX (t + 1) pm2 ht h1 h2 (fun i hi => ?_) h3
      by_cases e : i = t
      · subst e; exact hlt
      · have := hpm.2.1 i t (by omega) (by omega); omega
    · have hlt : v < V (pm t) := (nI_ltI (by omega) (by omega)).mp (nle_lt q)
      rw [nI_m1, nI_p1]
      refine ih _ (by omega) (fun i hi => ?_) (fun i hi1 hi2 => ?_) (fun i hi1 hi2 => ?_)
      · rw [va_up_ne _ _ (by omega)]; exact h1 i (by omega)
      · by_cases e : i = t + 1
        · subst e; rw [va_up_self]; rfl
        · rw [va_up_ne _ _ e]; exact h2 i (by omega) hi2
      · by_cases e : i = t
        · subst e; exact hlt
        · exact h3 i (by omega) hi2
theorem PMI.add {n v t : Nat} {V pm pm2 : Nat → Nat} (h : PMI n V pm) (ht : t ≤ n) (h1 : ∀ i, i < t → pm2 i = pm i) (h2 : ∀ i, t < i → i ≤ n → pm2 i = pm (i - 1)) (h3 : ∀ i, i < t → V (pm i) < v) (h4 : ∀ i, t ≤ i → i < n → v < V (pm i)) : PMI (n + 1) (st V n v) (va_up pm2 t n) := by
  obtain ⟨a1, a2, a3⟩ := h
  have val : ∀ i, i < n → st V n v (pm i) = V (pm i) := fun i hi => st_n (by have := a1 i hi; omega)
  have lo : ∀ i, i < t → va_up pm2 t n i = pm i := fun i hi => by rw [va_up_ne _ _ (by omega)]; exact h1 i hi
  have hi_ : ∀ i, t < i → i ≤ n → va_up pm2 t n i = pm (i - 1) := fun i hi hi2 => by rw [va_up_ne _ _ (by omega)]; exact h2 i hi hi2
  have mid : va_up pm2 t n t = n := va_up_self _ _ _
  refine ⟨fun i hi => ?_, fun i j hij hj => ?_, fun k hk => ?_⟩
  · rcases Nat.lt_trichotomy i t with q | q | q
    · rw [lo i q]; have := a1 i (by omega); omega
    · subst q; rw [mid]; omega
    · rw [hi_ i q (by omega)]; have := a1 (i - 1) (by omega); omega
  · rcases Nat.lt_trichotomy i t with q | q | q
    · rw [lo i q, val i (by omega)]
      rcases Nat.lt_trichotomy j t with r | r | r
      · rw [lo j r, val j (by omega)]; exact a2 i j hij (by omega)
      · subst r; rw [mid, st_s]; exact h3 i q
      · rw [hi_ j r (by omega), val _ (by omega)]
        by_cases e : i < j - 1
        · exact a2 i (j - 1) e (by omega)
        · omega
    · subst q
      rw [mid, st_s, hi_ j hij (by omega), val _ (by omega)]
      exact h4 (j - 1) (by omega) (by omega)
    · rw [hi_ i q (by omega), hi_ j (by omega) (by omega), val _ (by omega), val _ (by omega)]
      exact a2 (i - 1) (j - 1) (by omega) (by omega)
  · rcases Nat.lt_or_ge k n with q | q
    · obtain ⟨i, hi, rfl⟩ := a3 k q
      rcases Nat.lt_or_ge i t with r | r
      · exact ⟨i, by omega, lo i r⟩
      · refine ⟨i + 1, by omega, ?_⟩
        rw [hi_ (i + 1) (by omega) (by omega)]; rfl
    · exact ⟨t, by omega, by rw [mid]; omega⟩
theorem KI.add {n v r : Nat} {V R T : Nat → Nat} {kv kn kr kt kb ks kg : Nat → Int32} {x3 : Int32} (h : KI n V R T (nI n) kv kn kr kt kb ks kg) (hn : n < 6) (hv1 : 1 ≤ v) (hv2 : v ≤ 200) (hr : r ≤ 20) (hne : ∀ i, i < n → ¬ V i = v) (h3 : x3 = 0 ∨ x3 = 1) : KI (n + 1) (st V n v) (st R n r) T (nI (n + 1)) (upd kv n (nI v)) (upd kn n x3) (upd kr n (nI r)) kt kb ks kg := by
  obtain ⟨a1, a2, a3, a4, a5, a6, a7⟩ := h
  refine ⟨rfl, hn, fun i hi => ?_, fun i j hi hj e => ?_, fun i hi => ?_, fun i hi => ?_, fun i hi hi6 => ?_⟩
  · by_cases e : i = n
    · subst e; rw [pk_us, st_s]; exact ⟨rfl, hv1, hv2⟩
    · rw [pk_un e, st_n e]; exact a3 i (by omega)
  · by_cases ei : i = n
    · by_cases ej : j = n
      · omega
      · subst ei; rw [st_s, st_n ej] at e; exact absurd e.symm (hne j (by omega))
    · by_cases ej : j = n
      · subst ej; rw [st_s, st_n ei] at e; exact absurd e (hne i (by omega))
      · rw [st_n ei, st_n ej] at e; exact a4 i j (by omega) (by omega) e
  · by_cases e : i = n
    · subst e; rw [pk_us]; exact ⟨h3, (a5 i hi).2⟩
    · rw [pk_un e]; exact a5 i hi
  · obtain ⟨b1, b2, b3, b4⟩ := a6 i hi
    by_cases e : i = n
    · subst e
      have := (a7 i (Nat.le_refl _) hi).2.1
      rw [pk_us, st_s]; exact ⟨rfl, hr, b3, by omega⟩
    · rw [pk_un e, st_n e]; exact ⟨b1, b2, b3, b4⟩
  · rw [pk_un (by omega), st_n (by omega)]; exact a7 i (by omega) hi6

theorem mono_canCome32 {x : Int32} {mnk : Int32} {mva : Nat → Int32} {K K2 : Int32 → Prop} (h : ∀ r, K r → K2 r) : ∀ (n : Nat) (x2 : Int32), wp_X6_canCome_32 x mnk mva K (K 1) n x2 → wp_X6_canCome_32 x mnk mva K2 (K2 1) n x2 := by
  intro n
  induction n with
  | zero => intro x2 hh; exact hh
  | succ n ih =>
    intro x2 hh
    unfold wp_X6_canCome_32 at hh ⊢
    exact ⟨fun q => h _ (hh.1 q), fun q => ⟨(hh.2 q).1, fun q2 => ih _ ((hh.2 q).2.1 q2), fun q2 => h _ ((hh.2 q).2.2 q2)⟩⟩
theorem mono_canCome {x mnk mcr : Int32} {mva : Nat → Int32} {K K2 : Int32 → Prop} (h : ∀ r, K r → K2 r) (hh : wp_X6_canCome x mnk mva mcr K) : wp_X6_canCome x mnk mva mcr K2 := by
  unfold wp_X6_canCome at hh ⊢
  refine ⟨fun q => h _ (hh.1 q), fun q1 => ⟨fun q => h _ ((hh.2 q1).1 q), fun q2 => ⟨fun q => h _ (((hh.2 q1).2 q2).1 q), fun q3 => ⟨fun q => ?_, fun q => h _ ((((hh.2 q1).2 q2).2 q3).2 q)⟩⟩⟩⟩
  obtain ⟨n5, h5⟩ := (((hh.2 q1).2 q2).2 q3).1 q
  exact ⟨n5, mono_canCome32 h n5 0 h5⟩
theorem any_canCome {n c : Nat} {x : Int32} {V : Nat → Nat} {mva : Nat → Int32} {K : Int32 → Prop} (h : ∀ r, K r) (hn : n ≤ 6) (hc : c ≤ 999) (hv : ∀ i, i < n → mva i = nI (V i) ∧ V i ≤ 200) : wp_X6_canCome x (nI n) mva (nI c) K := by
  by_cases q1 : x < 1
  · exact sp_canCome_n hc hn (Or.inl q1) (h _)
  by_cases q2 : (200 : Int32) < x
  · exact sp_canCome_n hc hn (Or.inr (Or.inl q2)) (h _)
  by_cases q3 : c = 0
  · by_cases q4 : n = 6
    · exact sp_canCome_n hc hn (Or.inr (Or.inr (Or.inr q4))) (h _)
    obtain ⟨v, hvb, rfl⟩ := nI_of (x := x) (fun q => q1 (by rw [i_lt] at q ⊢; have e : (0 : Int32).toInt = 0 := rfl; have e2 : (1 : Int32).toInt = 1 := rfl; omega))
    have hv1 : 1 ≤ v := (nI_leI (a := 1) (by omega) (by omega)).mp (nlt_le q1)
    have hv2 : v ≤ 200 := (nI_leI (b := 200) (by omega) (by omega)).mp (nlt_le q2)
    exact sp_canCome hn hc hv hv1 hv2 q3 (by omega) (fun _ => h _) (fun _ => h _)
  · exact sp_canCome_n hc hn (Or.inr (Or.inr (Or.inl q3))) (h _)

theorem ok_0 (j : Nat) (hj : j < 512) : lwOK0 (Rel j) (Rel (j + 1)) := by
  intro x1 x2 sz pr pm kv kn kr kt kb ks kj kw kg wd fw ad bk md cr ow hd mtd mnk mva mno mro mtu mbx mst mja mpr mcr mow mhd mmo mbk mca mfr mrs mrk mfe mus mgi maj h
  unfold lw_c0
  have h0 := Rel_mono j hj sz pr pm kv kn kr kt kb ks kj kw kg wd fw ad bk md cr ow hd mtd mnk mva mno mro mtu mbx mst mja mpr mcr mow mhd mmo mbk mca mfr mrs mrk mfe mus mgi maj h
  obtain ⟨n, V, R, T, P, c, o, m, ho, ⟨hK, hpm, hpr, ⟨rfl, hc, rfl, ho9, hj5, rfl, hm⟩, hhd, hfw⟩, rfl, rfl, rfl, rfl, rfl, ap, av, an, ar, au, ab, as, aj, ag, ak⟩ := h
  obtain ⟨rfl, hn, hv, hvd, hbb, hrt, hz⟩ := id hK
  have hvm : ∀ i, i < n → mva i = nI (V i) ∧ V i ≤ 200 := fun i hi => ⟨(av i (by omega)).trans (hv i hi).1, (hv i hi).2.2⟩
  have no : wp_X6_canCome x1 (nI n) mva (nI c) (fun r => r = 0 ∨ x2 < 0 ∨ ¬ x2 ≤ 20) → wp_X6_coin x1 x2 mtd (nI n) mva mro (nI c) (fun (r2 : Int32) (mtd' : Int32) (mnk' : Int32) (mva' : Nat → Int32) (mro' : Nat → Int32) => -1 = r2 ∧ Rel (j + 1) (nI n) pr pm kv kn kr kt kb ks kj kw kg wd fw ad bk (nI m) (nI c) (nI o) mhd mtd' mnk' mva' mno mro' mtu mbx mst mja mpr (nI c) (nI o) mhd (nI m) mbk mca mfr mrs mrk mfe mus mgi maj) := by
    intro hh
    unfold wp_X6_coin
    refine mono_canCome (fun r hr => ?_) hh
    rcases hr with hr | hr | hr
    · exact ⟨fun _ => ⟨rfl, h0⟩, fun q => absurd hr q⟩
    · exact ⟨fun _ => ⟨rfl, h0⟩, fun _ => ⟨fun _ => ⟨rfl, h0⟩, fun q => absurd hr q⟩⟩
    · exact ⟨fun _ => ⟨rfl, h0⟩, fun _ => ⟨fun _ => ⟨rfl, h0⟩, fun _ => ⟨fun q => absurd q hr, fun _ => ⟨rfl, h0⟩⟩⟩⟩
  unfold wp_X5_coin
  refine ⟨fun q1 => no (any_canCome (fun r => Or.inr (Or.inl q1)) hn hc hvm), fun q1 => ⟨fun q2 => ?_, fun q2 => no (any_canCome (fun r => Or.inr (Or.inr q2)) hn hc hvm)⟩⟩
  obtain ⟨rr, hrr, rfl⟩ := nI_of2 (M := 20) (n := 20) rfl q1 q2
  unfold wp_X5_addKind
  refine ⟨fun q3 => no (sp_canCome_n hc hn (Or.inl q3) (Or.inl rfl)), fun q3 => ⟨fun q4 => no (sp_canCome_n hc hn (Or.inr (Or.inl q4)) (Or.inl rfl)), fun q4 => ⟨fun q5 => ?_, fun q5 => no (sp_canCome_n hc hn (Or.inr (Or.inr (Or.inl (fun e => q5 (by rw [e]; rfl))))) (Or.inl rfl))⟩⟩⟩
  rw [nI_z (by omega)] at q5
  obtain ⟨v, hvb, rfl⟩ := nI_of (x := x1) (fun q => q3 (by rw [i_lt] at q ⊢; have e : (0 : Int32).toInt = 0 := rfl; have e2 : (1 : Int32).toInt = 1 := rfl; omega))
  have hv1 : 1 ≤ v := (nI_leI (a := 1) (by omega) (by omega)).mp (nlt_le q3)
  have hv2 : v ≤ 200 := (nI_leI (b := 200) (by omega) (by omega)).mp (nlt_le q4)
  unfold wp_X3_add
  refine ⟨fun q6 => no (sp_canCome_n hc hn (Or.inr (Or.inr (Or.inr ?_))) (Or.inl rfl)), fun q6 => ?_⟩
  · have := (nI_leI (a := 6) (by omega) (by omega)).mp q6; omega
  have hn6 : n < 6 := (nI_ltI (b := 6) (by omega) (by omega)).mp (nle_lt q6)
  refine sp_hasValue hn hv hv2 (fun hex => ⟨fun q => absurd q (by decide), fun _ => no (sp_canCome hn hc hvm hv1 hv2 q5 hn6 (fun _ => Or.inl rfl) (fun hne => absurd hex (fun ⟨i, hi, e⟩ => hne i hi e)))⟩) (fun hne => ⟨fun _ => ?_, fun q => absurd rfl q⟩)
  rw [nI_clamp (show n < 2 ^ 31 by omega)]
  refine ⟨vp_in_nI hn6 (by omega), n + 1, ?_⟩
  refine sp_add54 (V := V) (pm := pm) hn6 (fun i hi => ?_) hv2 hpm hne (fun t pm2 ht p1 p2 p3 p4 => ⟨vp_in_nI (by omega) (by omega), ?_⟩) n pm (Nat.le_refl _) (fun _ _ => rfl) (fun i hi hi2 => by omega) (fun i hi hi2 => by omega)
  · rw [pk_un (by omega)]; exact ⟨(hv i hi).1, (hv i hi).2.2⟩
  rw [nI_clamp (show t < 2 ^ 31 by omega), nI_1, nI_p1]
  unfold wp_X6_coin
  refine sp_canCome hn hc hvm hv1 hv2 q5 hn6 (fun hex => absurd hex (fun ⟨i, hi, e⟩ => hne i hi e)) (fun _ => ⟨fun q => absurd q (by decide), fun _ => ⟨fun q => absurd q q1, fun _ => ⟨fun _ => ⟨vp_in_nI hn6 (by omega), vp_in_nI hn6 (by omega), ?_⟩, fun q => absurd q2 q⟩⟩⟩)
  rw [nI_clamp (show n < 2 ^ 31 by omega), nI_1, nI_p1]
  refine ⟨rfl, ⟨n + 1, st V n v, st R n rr, T, P, c, o, m, ho, ⟨hK.add hn6 hv1 hv2 hrr hne (Or.inl rfl), hpm.add ht p1 p2 p3 p4, hpr, ⟨rfl, hc, rfl, by omega, by omega, rfl, hm⟩, (by cases ho with | none => exact hhd | some k => exact absurd hhd.2.2.2 (by have := (hv k hhd.2.1).2.1; omega)), hfw⟩, rfl, rfl, rfl, rfl, rfl, ap, av.up, ?_, ar.up, au, ab, as, aj, ag, ak⟩⟩
  intro i hi
  by_cases e : i = n
  · subst e; rw [pk_us, an i hi]; exact (hz i (Nat.le_refl _) hi).1
  · rw [pk_un e]; exact an i hi
theorem ok_1 (j : Nat) (hj : j < 512) : lwOK1 (Rel j) (Rel (j + 1)) := by
  intro x1 x2 sz pr pm kv kn kr kt kb ks kj kw kg wd fw ad bk md cr ow hd mtd mnk mva mno mro mtu mbx mst mja mpr mcr mow mhd mmo mbk mca mfr mrs mrk mfe mus mgi maj h
  unfold lw_c1
  have h0 := Rel_mono j hj sz pr pm kv kn kr kt kb ks kj kw kg wd fw ad bk md cr ow hd mtd mnk mva mno mro mtu mbx mst mja mpr mcr mow mhd mmo mbk mca mfr mrs mrk mfe mus mgi maj h
  obtain ⟨n, V, R, T, P, c, o, m, ho, ⟨hK, hpm, hpr, ⟨rfl, hc, rfl, ho9, hj5, rfl, hm⟩, hhd, hfw⟩, rfl, rfl, rfl, rfl, rfl, ap, av, an, ar, au, ab, as, aj, ag, ak⟩ := h
  obtain ⟨rfl, hn, hv, hvd, hbb, hrt, hz⟩ := id hK
  have hvm : ∀ i, i < n → mva i = nI (V i) ∧ V i ≤ 200 := fun i hi => ⟨(av i (by omega)).trans (hv i hi).1, (hv i hi).2.2⟩
  have no : wp_X6_canCome x1 (nI n) mva (nI c) (fun r => r = 0) → wp_X6_note x1 mtd (nI n) mva mno (nI c) (fun (r2 : Int32) (mtd' : Int32) (mnk' : Int32) (mva' : Nat → Int32) (mno' : Nat → Int32) => -1 = r2 ∧ Rel (j + 1) (nI n) pr pm kv kn kr kt kb ks kj kw kg wd fw ad bk (nI m) (nI c) (nI o) mhd mtd' mnk' mva' mno' mro mtu mbx mst mja mpr (nI c) (nI o) mhd (nI m) mbk mca mfr mrs mrk mfe mus mgi maj) := by
    intro hh
    unfold wp_X6_note
    refine mono_canCome (fun r hr => ?_) hh
    exact ⟨fun q => absurd hr q, fun _ => ⟨rfl, h0⟩⟩
  unfold wp_X5_note
  obtain ⟨rr, hrr, er⟩ : ∃ rr : Nat, rr ≤ 20 ∧ (0 : Int32) = nI rr := ⟨0, by omega, rfl⟩
  have er0 : rr = 0 := ((nI_z (by omega)).mp er.symm)
  rw [er]
  unfold wp_X5_addKind
  refine ⟨fun q3 => no (sp_canCome_n hc hn (Or.inl q3) (rfl)), fun q3 => ⟨fun q4 => no (sp_canCome_n hc hn (Or.inr (Or.inl q4)) (rfl)), fun q4 => ⟨fun q5 => ?_, fun q5 => no (sp_canCome_n hc hn (Or.inr (Or.inr (Or.inl (fun e => q5 (by rw [e]; rfl))))) (rfl))⟩⟩⟩
  rw [nI_z (by omega)] at q5
  obtain ⟨v, hvb, rfl⟩ := nI_of (x := x1) (fun q => q3 (by rw [i_lt] at q ⊢; have e : (0 : Int32).toInt = 0 := rfl; have e2 : (1 : Int32).toInt = 1 := rfl; omega))
  have hv1 : 1 ≤ v := (nI_leI (a := 1) (by omega) (by omega)).mp (nlt_le q3)
  have hv2 : v ≤ 200 := (nI_leI (b := 200) (by omega) (by omega)).mp (nlt_le q4)
  unfold wp_X3_add
  refine ⟨fun q6 => no (sp_canCome_n hc hn (Or.inr (Or.inr (Or.inr ?_))) (rfl)), fun q6 => ?_⟩
  · have := (nI_leI (a := 6) (by omega) (by omega)).mp q6; omega
  have hn6 : n < 6 := (nI_ltI (b := 6) (by omega) (by omega)).mp (nle_lt q6)
  refine sp_hasValue hn hv hv2 (fun hex => ⟨fun q => absurd q (by decide), fun _ => no (sp_canCome hn hc hvm hv1 hv2 q5 hn6 (fun _ => rfl) (fun hne => absurd hex (fun ⟨i, hi, e⟩ => hne i hi e)))⟩) (fun hne => ⟨fun _ => ?_, fun q => absurd rfl q⟩)
  rw [nI_clamp (show n < 2 ^ 31 by omega)]
  refine ⟨vp_in_nI hn6 (by omega), n + 1, ?_⟩
  refine sp_add54 (V := V) (pm := pm) hn6 (fun i hi => ?_) hv2 hpm hne (fun t pm2 ht p1 p2 p3 p4 => ⟨vp_in_nI (by omega) (by omega), ?_⟩) n pm (Nat.le_refl _) (fun _ _ => rfl) (fun i hi hi2 => by omega) (fun i hi hi2 => by omega)
  · rw [pk_un (by omega)]; exact ⟨(hv i hi).1, (hv i hi).2.2⟩
  rw [nI_clamp (show t < 2 ^ 31 by omega), nI_1, nI_p1]
  unfold wp_X6_note
  refine sp_canCome hn hc hvm hv1 hv2 q5 hn6 (fun hex => absurd hex (fun ⟨i, hi, e⟩ => hne i hi e)) (fun _ => ⟨fun _ => ⟨vp_in_nI hn6 (by omega), vp_in_nI hn6 (by omega), ?_⟩, fun q => absurd q (by decide)⟩)
  rw [nI_clamp (show n < 2 ^ 31 by omega), nI_1, nI_p1]
  refine ⟨rfl, ⟨n + 1, st V n v, st R n rr, T, P, c, o, m, ho, ⟨hK.add hn6 hv1 hv2 hrr hne (Or.inr rfl), hpm.add ht p1 p2 p3 p4, hpr, ⟨rfl, hc, rfl, by omega, by omega, rfl, hm⟩, (by cases ho with | none => exact hhd | some k => exact absurd hhd.2.2.2 (by have := (hv k hhd.2.1).2.1; omega)), hfw⟩, rfl, rfl, rfl, rfl, rfl, ap, av.up, an.up, ?_, au, ab, as, aj, ag, ak⟩⟩
  intro i hi
  by_cases e : i = n
  · subst e
    rw [pk_us, ar i hi, (hrt i hi).1, (hz i (Nat.le_refl _) hi).2.1, er0]
  · rw [pk_un e]; exact ar i hi
