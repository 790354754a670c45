/-! the light -/
def AllT (n : Nat) (V R T P : Nat → Nat) (kn ks : Nat → Int32) : Prop := ∀ k, k < n → Tk n V R T P kn ks k 0 0
theorem AllT_eq {n : Nat} (hn : n ≤ 6) {V R T P : Nat → Nat} {kn ks mno mst : Nat → Int32} (h1 : Eq6 mno kn) (h2 : Eq6 mst ks) : AllT n V R T P mno mst ↔ AllT n V R T P kn ks :=
  ⟨fun h k hk => (Tk_eq hn hk h1 h2).mp (h k hk), fun h k hk => (Tk_eq hn hk h1 h2).mpr (h k hk)⟩
theorem sp_isLit {n : Nat} {V R T P : Nat → Nat} {mva mno mro mtu mst mpr mca mfr : Nat → Int32} {K : Int32 → (Nat → Int32) → (Nat → Int32) → (Nat → Int32) → Prop} (hKN : KN n V T (nI n) mva mtu) (hr : ∀ k, k < n → mro k = nI (R k) ∧ R k ≤ 20 ∧ T k ≤ R k) (hp : PRI P mpr)
    (h1 : ¬ AllT n V R T P mno mst → ∀ m2 f2, K 1 mtu m2 f2) (h0 : AllT n V R T P mno mst → ∀ m2 f2, K 0 mtu m2 f2) : wp_X6_isLit (nI n) mva mno mro mtu mst mpr mca mfr K := by
  obtain ⟨-, hn, hv, ht⟩ := id hKN
  unfold wp_X6_isLit
  have lp : ∀ (m k : Nat) (m2 f2 : Nat → Int32), k + m = n → (∀ i, i < k → Tk n V R T P mno mst i 0 0) → wp_X6_isLit_2 (nI n) mva mno mro mst mpr K (fun g1 g2 g3 => K 0 g1 g2 g3) (m + 1) (nI k) mtu m2 f2 := by
    intro m
    induction m with
    | zero =>
      intro k m2 f2 hk h
      unfold wp_X6_isLit_2
      exact ⟨fun _ => h0 (fun i hi => h i (by omega)) m2 f2, fun q => absurd (nI_le (by omega) (by omega)) q⟩
    | succ m ih =>
      intro k m2 f2 hk h
      unfold wp_X6_isLit_2
      obtain ⟨a1, a2, a3⟩ := hr k (by omega)
      refine ⟨fun q => absurd q (nI_ge (by omega) (by omega)), fun _ => ?_⟩
      rw [nI_1]
      refine sp_wouldTake (c := 0) (nv := 0) hKN (by omega) a1 a2 a3 hp (by omega) (by omega) (fun ht m3 f3 => ⟨fun _ => ih (k + 1) m3 f3 (by omega) (fun i hi => ?_), fun q => absurd q (by decide)⟩) (fun ht m3 f3 => ⟨fun q => absurd rfl q, fun _ => h1 (fun hall => ht (hall k (by omega))) m3 f3⟩)
      by_cases e : i = k
      · subst e; exact ht
      · exact h i (by omega)
  exact ⟨n + 1, lp n 0 mca mfr (by omega) (fun i hi => by omega)⟩
theorem sp_isOut {n l : Nat} {V R T a P : Nat → Nat} {pr kv kn kr kt kb ks kg ad : Nat → Int32} {wd : Nat → Nat → Int64} {K : Int32 → Prop} (hK : KI n V R T (nI n) kv kn kr kt kb ks kg) (hp : PRI P pr) (hl : l < 5) (ha : ∀ k, k < n → ad k = nI (a k) ∧ a k ≤ 20) (hw : ∀ s, s < 1024 → (bw (wd (l + 1)) s = true ↔ Rc n V (spN kn ks (fun i => T i + a i) 0) s))
    (h1 : AllT n V R (fun i => T i + a i) P kn ks → K 1) (h0 : ¬ AllT n V R (fun i => T i + a i) P kn ks → K 0) : wp_X1_isOut (nI l) (nI n) pr kv kn kr kt ks wd ad K := by
  obtain ⟨-, hn, hv, hvd, hbb, hrt, hz⟩ := id hK
  unfold wp_X1_isOut
  have lp : ∀ (m k : Nat), k + m = n → (∀ i, i < k → Tk n V R (fun i => T i + a i) P kn ks i 0 0) → wp_X1_isOut_2 (nI l) (nI n) pr kv kn kr kt ks wd ad K (K 1) (m + 1) (nI k) := by
    intro m
    induction m with
    | zero =>
      intro k hk h
      unfold wp_X1_isOut_2
      exact ⟨fun _ => h1 (fun i hi => h i (by omega)), fun q => absurd (nI_le (by omega) (by omega)) q⟩
    | succ m ih =>
      intro k hk h
      unfold wp_X1_isOut_2
      have hin : vp_in (nI k) 6 := vp_in_nI (by omega) (by omega)
      obtain ⟨r1, r2, t1, t2⟩ := hrt k (by omega)
      obtain ⟨v1, v2, v3⟩ := hv k (by omega)
      obtain ⟨a1, a2⟩ := ha k (by omega)
      refine ⟨fun q => absurd q (nI_ge (by omega) (by omega)), fun _ => ⟨hin, ?_⟩⟩
      rw [nI_clamp (show k < 2 ^ 31 by omega), nI_clamp (show l < 2 ^ 31 by omega), nI_1]
      refine jn1 (fun x => x = nI (if kn k = 0 then 0 else V k)) (fun x hx => ⟨hin, ?_⟩) (fun Z hZ => ⟨fun q => hZ _ (by rw [if_pos q]; rfl), fun q => hZ _ (by rw [if_neg q]; exact v1)⟩)
      subst hx
      unfold wp_X0_free
      rw [r1, t1, pk_sub t2, a1]
      refine jn1 (fun fit => fit = 0 ∧ ¬ T k + a k < R k ∨ fit = 1 ∧ T k + a k < R k) (fun fit hfit => ⟨vp_in_nI hl (by omega), ?_⟩) (fun Z hZ => ⟨fun q => hZ _ (Or.inl ⟨rfl, by rw [nI_leI (by omega) (by omega)] at q; omega⟩), fun q => hZ _ (Or.inr ⟨rfl, by rw [nI_leI (by omega) (by omega)] at q; omega⟩)⟩)
      have e : MTp (Qw (wd (l + 1)) (ownV fit kn ks k (V k))) (V k) (if kn k = 0 then 0 else V k) P ↔ MTp (Rc n V (spN kn ks (T2f kn R (fun i => T i + a i) k) 0)) (V k) (if kn k = 0 then 0 else V k) P := MTp_congr (fun s hs => Qw_iff hw (by omega) v2 hfit hs)
      have hT : Tk n V R (fun i => T i + a i) P kn ks k 0 0 ↔ MTp (Qw (wd (l + 1)) (ownV fit kn ks k (V k))) (V k) (if kn k = 0 then 0 else V k) P := by
        rw [e]
        unfold Tk
        rw [Nat.zero_add]
        exact ⟨fun q => q.2, fun q => ⟨Or.inr rfl, q⟩⟩
      rw [v1]
      have hnv : (if kn k = 0 then 0 else V k) ≤ V k := by
        by_cases q : kn k = 0
        · rw [if_pos q]; omega
        · rw [if_neg q]; omega
      refine sp_mayTake (by omega) hnv hp v1 v3 (fun hm => ⟨fun _ => ih (k + 1) (by omega) (fun i hi => ?_), fun q => absurd q (by decide)⟩) (fun hm => ⟨fun q => absurd rfl q, fun _ => h0 (fun hall => hm (hT.mp (hall k (by omega))))⟩)
      by_cases e : i = k
      · subst e; exact hT.mpr hm
      · exact h i (by omega)
  exact ⟨n + 1, lp n 0 (by omega) (fun i hi => by omega)⟩
theorem AllT_congr {n : Nat} {V R T T2 P : Nat → Nat} {kn ks : Nat → Int32} (h : ∀ i, i < n → gvs kn ks i = true → T i = T2 i) (h2 : ∀ i, i < n → gvs kn ks i = false → (spN kn ks T 0 i = spN kn ks T2 0 i)) : AllT n V R T P kn ks → AllT n V R T2 P kn ks := by
  intro hall k hk
  obtain ⟨a, b⟩ := hall k hk
  refine ⟨a, (MTp_congr (fun s _ => Rc_congr (fun i hi => ?_))).mp b⟩
  unfold spN
  by_cases g : gvs kn ks i = true
  · rw [if_pos g, if_pos g]
    unfold T2f
    by_cases gk : gvs kn ks k = true
    · rw [h k hk gk]
      by_cases c : kn k = 0 ∧ T2 k < R k
      · rw [if_pos c, if_pos c]
        by_cases e : i = k
        · subst e; rw [st_s, st_s]
        · rw [st_n e, st_n e, h i hi g]
      · rw [if_neg c, if_neg c, h i hi g]
    · have ne : i ≠ k := fun e => gk (e ▸ g)
      have e1 : (if kn k = 0 ∧ T k < R k then st T k (T k + 1) else T) i = T i := by
        by_cases c : kn k = 0 ∧ T k < R k
        · rw [if_pos c, st_n ne]
        · rw [if_neg c]
      have e2 : (if kn k = 0 ∧ T2 k < R k then st T2 k (T2 k + 1) else T2) i = T2 i := by
        by_cases c : kn k = 0 ∧ T2 k < R k
        · rw [if_pos c, st_n ne]
        · rw [if_neg c]
      rw [e1, e2, h i hi g]
  · rw [if_neg g, if_neg g]

theorem ok_16 (j : Nat) (hj : j < 512) : lwOK16 (Rel j) (Rel (j + 1)) := by
  intro x1 x2 sz pr pm kv kn kr kt kb ks kj kw kg wd fw ad bk md cr ow hd mtd mnk mva mno mro mtu mbx mst mja mpr mcr mow mhd mmo mbk mca mfr mrs mrk mfe mus mgi maj h
  unfold lw_c16
  have h0 := Rel_mono j hj sz pr pm kv kn kr kt kb ks kj kw kg wd fw ad bk md cr ow hd mtd mnk mva mno mro mtu mbx mst mja mpr mcr mow mhd mmo mbk mca mfr mrs mrk mfe mus mgi maj h
  obtain ⟨n, V, R, T, P, c, o, m, ho, ⟨hK, hpm, hpr, ⟨rfl, hc, rfl, ho9, hj5, rfl, hm⟩, hhd, hfw⟩, rfl, rfl, rfl, rfl, rfl, ap, av, an, ar, au, ab, as, aj, ag, ak⟩ := h
  obtain ⟨rfl, hn, hv, hvd, hbb, hrt, hz⟩ := id hK
  have hKN := hK.toKN
  have hprm : PRI P mpr := fun p hp => by rw [ap p hp]; exact hpr p hp
  unfold wp_X5_light wp_X1_fewest wp_X6_light
  refine ⟨vp_in_l (by decide), ?_⟩
  refine sp_collect (j := 1) (r := 0) hKN (by omega) (fun wd2 _ hw => ⟨2, ?_⟩)
  have model : ∀ (r : Int32) (wd3 : Nat → Nat → Int64) (ad3 : Nat → Int32), (AllT n V R T P kn ks → r = 0) → (¬ AllT n V R T P kn ks → r = 1) → wp_X6_isLit (nI n) mva mno mro mtu mst mpr mca mfr (fun (r_1 : Int32) (mtu_1 : Nat → Int32) (mca_1 : Nat → Int32) (mfr_1 : Nat → Int32) => r = r_1 ∧ Rel (j + 1) (nI n) pr pm kv kn kr kt kb ks kj kw kg wd3 fw ad3 bk (nI m) (nI c) (nI o) mhd 0 (nI n) mva mno mro mtu_1 mbx mst mja mpr (nI c) (nI o) mhd (nI m) mbk mca_1 mfr_1 mrs mrk mfe mus mgi maj) := by
    intro r wd3 ad3 hr0 hr1
    refine sp_isLit (R := R) (T := T) (hKN.eq6 av au) (fun k hk => ⟨(ar k (by omega)).trans (hrt k (by omega)).1, (hrt k (by omega)).2.1, (hrt k (by omega)).2.2.2⟩) hprm (fun hno m2 f2 => ⟨hr1 (fun q => hno ((AllT_eq hn an as).mpr q)), h0⟩) (fun hall m2 f2 => ⟨hr0 ((AllT_eq hn an as).mp hall), h0⟩)
  have e0 : (fun i => T i + 0) = T := funext (fun i => Nat.add_zero _)
  unfold wp_X1_fewest_13
  refine ⟨fun q => absurd q (by decide), fun _ => ⟨fun q => absurd q (by decide), fun _ => ?_⟩⟩
  unfold wp_X1_putsOut
  refine ⟨fun _ => ?_, fun q => absurd (by decide) q⟩
  refine sp_isOut (l := 0) (a := fun _ => 0) (T := T) hK hpr (by omega) (fun k hk => ⟨by unfold fillI; rw [if_pos (by omega)]; rfl, Nat.zero_le _⟩) (fun s hs => by rw [e0]; exact hw s hs) (fun hall => ?_) (fun hno => ?_)
  · refine ⟨fun q => absurd q (by decide), fun _ => ⟨fun _ => ?_, fun q => absurd q (by decide)⟩⟩
    exact model 0 _ _ (fun _ => rfl) (fun q => absurd (by rw [e0] at hall; exact hall) q)
  · refine ⟨fun _ => ?_, fun q => absurd rfl q⟩
    unfold wp_X1_fewest_13
    refine ⟨fun _ => ⟨fun q => absurd rfl q, fun _ => ?_⟩, fun q => absurd (by decide) q⟩
    exact model 1 _ _ (fun q => absurd q (by rw [e0] at hno; exact hno)) (fun _ => rfl)
