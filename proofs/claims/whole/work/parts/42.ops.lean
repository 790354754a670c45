/-! further calls: sums of values, kind, look, empty, count -/
def isum (f : Nat → Int32) : Nat → Int32
  | 0 => 0
  | k + 1 => isum f k + f k
theorem isum_congr {f g : Nat → Int32} : ∀ {n : Nat}, (∀ i, i < n → f i = g i) → isum f n = isum g n
  | 0, _ => rfl
  | n + 1, h => by
    show isum f n + f n = isum g n + g n
    rw [isum_congr (fun i hi => h i (by omega)), h n (by omega)]

theorem sp_tubesV_loop {n : Nat} {a : Int32} {kv kt : Nat → Int32} {K : Int32 → Prop} {X : Int32 → Prop} (hn : n ≤ 6) (hX : X (a + isum (fun i => kt i * kv i) n)) :
    ∀ (m k : Nat), k + m = n → wp_X3_tubesValue_4 (nI n) kv kt K X (m + 1) (a + isum (fun i => kt i * kv i) k) (nI k) := by
  intro m
  induction m with
  | zero =>
    intro k hk
    unfold wp_X3_tubesValue_4
    refine ⟨fun _ => ?_, fun q => absurd (nI_le (by omega) (by omega)) q⟩
    rw [show k = n by omega]; exact hX
  | succ m ih =>
    intro k hk
    unfold wp_X3_tubesValue_4
    have hin : vp_in (nI k) 6 := vp_in_nI (by omega) (by omega)
    have := ih (k + 1) (by omega)
    refine ⟨fun q => absurd q (nI_ge (by omega) (by omega)), fun _ => ⟨hin, hin, ?_⟩⟩
    rw [nI_clamp (by omega), nI_1, Int32.add_assoc]
    exact this
theorem sp_boxV_loop {n : Nat} {a : Int32} {kv kb : Nat → Int32} {K : Int32 → Prop} {X : Int32 → Prop} (hn : n ≤ 6) (hX : X (a + isum (fun i => kb i * kv i) n)) :
    ∀ (m k : Nat), k + m = n → wp_X3_boxValue_4 (nI n) kv kb K X (m + 1) (a + isum (fun i => kb i * kv i) k) (nI k) := by
  intro m
  induction m with
  | zero =>
    intro k hk
    unfold wp_X3_boxValue_4
    refine ⟨fun _ => ?_, fun q => absurd (nI_le (by omega) (by omega)) q⟩
    rw [show k = n by omega]; exact hX
  | succ m ih =>
    intro k hk
    unfold wp_X3_boxValue_4
    have hin : vp_in (nI k) 6 := vp_in_nI (by omega) (by omega)
    have := ih (k + 1) (by omega)
    refine ⟨fun q => absurd q (nI_ge (by omega) (by omega)), fun _ => ⟨hin, hin, ?_⟩⟩
    rw [nI_clamp (by omega), nI_1, Int32.add_assoc]
    exact this
theorem sp_boxed_loop {n : Nat} {a : Int32} {mva mbx : Nat → Int32} {K : Int32 → Prop} {X : Int32 → Prop} (hn : n ≤ 6) (hX : X (a + isum (fun i => mbx i * mva i) n)) :
    ∀ (m k : Nat), k + m = n → wp_X6_boxed_4 (nI n) mva mbx K X (m + 1) (a + isum (fun i => mbx i * mva i) k) (nI k) := by
  intro m
  induction m with
  | zero =>
    intro k hk
    unfold wp_X6_boxed_4
    refine ⟨fun _ => ?_, fun q => absurd (nI_le (by omega) (by omega)) q⟩
    rw [show k = n by omega]; exact hX
  | succ m ih =>
    intro k hk
    unfold wp_X6_boxed_4
    have hin : vp_in (nI k) 6 := vp_in_nI (by omega) (by omega)
    have := ih (k + 1) (by omega)
    refine ⟨fun q => absurd q (nI_ge (by omega) (by omega)), fun _ => ⟨hin, hin, ?_⟩⟩
    rw [nI_clamp (by omega), nI_1, Int32.add_assoc]
    exact this
theorem sp_look71 {n : Nat} {a : Int32} {mva mtu : Nat → Int32} {K : Int32 → Int32 → Prop} {X : Int32 → Prop} (hn : n ≤ 6) (hX : X (a + isum (fun i => mtu i * mva i) n)) :
    ∀ (m k : Nat), k + m = n → wp_X6_look_71 (nI n) mva mtu K X (m + 1) (a + isum (fun i => mtu i * mva i) k) (nI k) := by
  intro m
  induction m with
  | zero =>
    intro k hk
    unfold wp_X6_look_71
    refine ⟨fun _ => ?_, fun q => absurd (nI_le (by omega) (by omega)) q⟩
    rw [show k = n by omega]; exact hX
  | succ m ih =>
    intro k hk
    unfold wp_X6_look_71
    have hin : vp_in (nI k) 6 := vp_in_nI (by omega) (by omega)
    have := ih (k + 1) (by omega)
    refine ⟨fun q => absurd q (nI_ge (by omega) (by omega)), fun _ => ⟨hin, hin, ?_⟩⟩
    rw [nI_clamp (by omega), nI_1, Int32.add_assoc]
    exact this
theorem sp_inWay_loop {n : Nat} {a : Int32} {kw : Nat → Int32} {K : Int32 → Prop} {X : Int32 → Prop} (hn : n ≤ 6) (hX : X (a + isum (fun i => kw i) n)) :
    ∀ (m k : Nat), k + m = n → wp_X3_coinsInWay_4 (nI n) kw K X (m + 1) (a + isum (fun i => kw i) k) (nI k) := by
  intro m
  induction m with
  | zero =>
    intro k hk
    unfold wp_X3_coinsInWay_4
    refine ⟨fun _ => ?_, fun q => absurd (nI_le (by omega) (by omega)) q⟩
    rw [show k = n by omega]; exact hX
  | succ m ih =>
    intro k hk
    unfold wp_X3_coinsInWay_4
    have hin : vp_in (nI k) 6 := vp_in_nI (by omega) (by omega)
    have := ih (k + 1) (by omega)
    refine ⟨fun q => absurd q (nI_ge (by omega) (by omega)), fun _ => ⟨hin, ?_⟩⟩
    rw [nI_clamp (by omega), nI_1, Int32.add_assoc]
    exact this
theorem sp_given_loop {n : Nat} {a : Int32} {kg : Nat → Int32} {K : Int32 → Prop} {X : Int32 → Prop} (hn : n ≤ 6) (hX : X (a + isum (fun i => kg i) n)) :
    ∀ (m k : Nat), k + m = n → wp_X3_coinsGiven_4 (nI n) kg K X (m + 1) (a + isum (fun i => kg i) k) (nI k) := by
  intro m
  induction m with
  | zero =>
    intro k hk
    unfold wp_X3_coinsGiven_4
    refine ⟨fun _ => ?_, fun q => absurd (nI_le (by omega) (by omega)) q⟩
    rw [show k = n by omega]; exact hX
  | succ m ih =>
    intro k hk
    unfold wp_X3_coinsGiven_4
    have hin : vp_in (nI k) 6 := vp_in_nI (by omega) (by omega)
    have := ih (k + 1) (by omega)
    refine ⟨fun q => absurd q (nI_ge (by omega) (by omega)), fun _ => ⟨hin, ?_⟩⟩
    rw [nI_clamp (by omega), nI_1, Int32.add_assoc]
    exact this
theorem sp_coins30 {n : Nat} {a : Int32} {mus : Nat → Int32} {K : Int32 → Int32 → Int32 → (Nat → Int32) → (Nat → Int32) → (Nat → Int32) → Prop} {X : Int32 → Prop} (hn : n ≤ 6) (hX : X (a + isum (fun i => mus i) n)) :
    ∀ (m k : Nat), k + m = n → wp_X6_coins_30 (nI n) mus K X (m + 1) (a + isum (fun i => mus i) k) (nI k) := by
  intro m
  induction m with
  | zero =>
    intro k hk
    unfold wp_X6_coins_30
    refine ⟨fun _ => ?_, fun q => absurd (nI_le (by omega) (by omega)) q⟩
    rw [show k = n by omega]; exact hX
  | succ m ih =>
    intro k hk
    unfold wp_X6_coins_30
    have hin : vp_in (nI k) 6 := vp_in_nI (by omega) (by omega)
    have := ih (k + 1) (by omega)
    refine ⟨fun q => absurd q (nI_ge (by omega) (by omega)), fun _ => ⟨hin, ?_⟩⟩
    rw [nI_clamp (by omega), nI_1, Int32.add_assoc]
    exact this
theorem sp_tubesV {n : Nat} {kv kt : Nat → Int32} {K : Int32 → Prop} (hn : n ≤ 6) (h : K (isum (fun i => kt i * kv i) n)) : wp_X3_tubesValue (nI n) kv kt K := by
  unfold wp_X3_tubesValue
  refine ⟨n + 1, ?_⟩
  have := sp_tubesV_loop (a := 0) (K := K) (X := fun x => K x) (kv := kv) (kt := kt) hn (by rw [Int32.zero_add]; exact h) n 0 (by omega)
  rw [Int32.zero_add] at this
  exact this
theorem sp_boxV {n : Nat} {kv kb : Nat → Int32} {K : Int32 → Prop} (hn : n ≤ 6) (h : K (isum (fun i => kb i * kv i) n)) : wp_X3_boxValue (nI n) kv kb K := by
  unfold wp_X3_boxValue
  refine ⟨n + 1, ?_⟩
  have := sp_boxV_loop (a := 0) (K := K) (X := fun x => K x) (kv := kv) (kb := kb) hn (by rw [Int32.zero_add]; exact h) n 0 (by omega)
  rw [Int32.zero_add] at this
  exact this
theorem sp_boxed {n : Nat} {mva mbx : Nat → Int32} {K : Int32 → Prop} (hn : n ≤ 6) (h : K (isum (fun i => mbx i * mva i) n)) : wp_X6_boxed (nI n) mva mbx K := by
  unfold wp_X6_boxed
  refine ⟨n + 1, ?_⟩
  have := sp_boxed_loop (a := 0) (K := K) (X := fun x => K x) (mva := mva) (mbx := mbx) hn (by rw [Int32.zero_add]; exact h) n 0 (by omega)
  rw [Int32.zero_add] at this
  exact this
theorem sp_inWay {n : Nat} {kw : Nat → Int32} {K : Int32 → Prop} (hn : n ≤ 6) (h : K (isum (fun i => kw i) n)) : wp_X3_coinsInWay (nI n) kw K := by
  unfold wp_X3_coinsInWay
  refine ⟨n + 1, ?_⟩
  have := sp_inWay_loop (a := 0) (K := K) (X := fun x => K x) (kw := kw)  hn (by rw [Int32.zero_add]; exact h) n 0 (by omega)
  rw [Int32.zero_add] at this
  exact this
theorem sp_given {n : Nat} {kg : Nat → Int32} {K : Int32 → Prop} (hn : n ≤ 6) (h : K (isum (fun i => kg i) n)) : wp_X3_coinsGiven (nI n) kg K := by
  unfold wp_X3_coinsGiven
  refine ⟨n + 1, ?_⟩
  have := sp_given_loop (a := 0) (K := K) (X := fun x => K x) (kg := kg)  hn (by rw [Int32.zero_add]; exact h) n 0 (by omega)
  rw [Int32.zero_add] at this
  exact this
def hval (V : Nat → Nat) : Option Nat → Nat
  | none => 0
  | some k => V k
theorem hval_le {n c : Nat} {V : Nat → Nat} {ho : Option Nat} {hd : Int32} {kn : Nat → Int32} (h : HDI n V c ho hd kn) : hval V ho ≤ c := by
  cases ho with
  | none => exact Nat.zero_le _
  | some k => exact h.2.2.2
theorem sp_heldC {n c : Nat} {V : Nat → Nat} {ho : Option Nat} {hd : Int32} {kv kn : Nat → Int32} {K : Int32 → Prop} (hn : n ≤ 6) (hv : ∀ i, i < n → kv i = nI (V i) ∧ 1 ≤ V i ∧ V i ≤ 200) (h : HDI n V c ho hd kn) (hK : K (nI (hval V ho))) : wp_X5_heldValue (nI n) kv hd K := by
  unfold wp_X5_heldValue
  cases ho with
  | none =>
    have e : hd = -1 := h
    subst e
    exact sp_find_n hn (fun k hk e => absurd (show (-1 : Int32) < 0 by decide) (by rw [e]; exact nI_pos (by omega))) ⟨fun _ => hK, fun i e => (by cases e)⟩
  | some k =>
    obtain ⟨rfl, hk, -, -⟩ := h
    refine sp_find_y hk hn ⟨fun e => (by cases e), fun i e _ => ?_⟩
    cases e
    rw [(hv k hk).1]; exact hK
theorem sp_heldM {n c : Nat} {V : Nat → Nat} {ho : Option Nat} {hd : Int32} {mva kn : Nat → Int32} {K : Int32 → Prop} (hn : n ≤ 6) (hv : ∀ i, i < n → mva i = nI (V i)) (h : HDI n V c ho hd kn) (hK : K (nI (hval V ho))) : wp_X6_heldValue mva hd K := by
  unfold wp_X6_heldValue
  cases ho with
  | none =>
    have e : hd = -1 := h
    subst e
    exact ⟨fun q => absurd rfl q, fun _ => hK⟩
  | some k =>
    obtain ⟨rfl, hk, -, -⟩ := h
    refine ⟨fun _ => ⟨vp_in_nI (by omega) (by omega), ?_⟩, fun q => absurd (show (-1 : Int32) < 0 by decide) (by rw [← q]; exact nI_pos (by omega))⟩
    rw [nI_clamp (by omega), hv k hk]; exact hK
/-- all of an array's first places are 0 -/
theorem sp_clearBox_loop {n : Nat} {kb : Nat → Int32} {K X : (Nat → Int32) → Prop} (hn : n ≤ 6) (hX : ∀ f : Nat → Int32, (∀ i, i < n → f i = 0) → (∀ i, n ≤ i → f i = kb i) → X f) :
    ∀ (m k : Nat) (f : Nat → Int32), k + m = n → (∀ i, i < k → f i = 0) → (∀ i, k ≤ i → f i = kb i) → wp_X3_clearBox_2 (nI n) K X (m + 1) (nI k) f := by
  intro m
  induction m with
  | zero =>
    intro k f hk h1 h2
    unfold wp_X3_clearBox_2
    exact ⟨fun _ => hX f (fun i hi => h1 i (by omega)) (fun i hi => h2 i (by omega)), fun q => absurd (nI_le (by omega) (by omega)) q⟩
  | succ m ih =>
    intro k f hk h1 h2
    unfold wp_X3_clearBox_2
    refine ⟨fun q => absurd q (nI_ge (by omega) (by omega)), fun _ => ⟨vp_in_nI (by omega) (by omega), ?_⟩⟩
    rw [nI_clamp (by omega), nI_1]
    refine ih (k + 1) _ (by omega) (fun i hi => ?_) (fun i hi => ?_)
    · by_cases e : i = k
      · subst e; rw [pk_us]
      · rw [pk_un e]; exact h1 i (by omega)
    · rw [pk_un (by omega)]; exact h2 i (by omega)
theorem sp_forget_loop {n : Nat} {kb : Nat → Int32} {K X : (Nat → Int32) → Prop} (hn : n ≤ 6) (hX : ∀ f : Nat → Int32, (∀ i, i < n → f i = 0) → (∀ i, n ≤ i → f i = kb i) → X f) :
    ∀ (m k : Nat) (f : Nat → Int32), k + m = n → (∀ i, i < k → f i = 0) → (∀ i, k ≤ i → f i = kb i) → wp_X3_forgetGiven_2 (nI n) K X (m + 1) (nI k) f := by
  intro m
  induction m with
  | zero =>
    intro k f hk h1 h2
    unfold wp_X3_forgetGiven_2
    exact ⟨fun _ => hX f (fun i hi => h1 i (by omega)) (fun i hi => h2 i (by omega)), fun q => absurd (nI_le (by omega) (by omega)) q⟩
  | succ m ih =>
    intro k f hk h1 h2
    unfold wp_X3_forgetGiven_2
    refine ⟨fun q => absurd q (nI_ge (by omega) (by omega)), fun _ => ⟨vp_in_nI (by omega) (by omega), ?_⟩⟩
    rw [nI_clamp (by omega), nI_1]
    refine ih (k + 1) _ (by omega) (fun i hi => ?_) (fun i hi => ?_)
    · by_cases e : i = k
      · subst e; rw [pk_us]
      · rw [pk_un e]; exact h1 i (by omega)
    · rw [pk_un (by omega)]; exact h2 i (by omega)
theorem sp_empty12 {x1 : Int32} {K : Int32 → Int32 → (Nat → Int32) → (Nat → Int32) → Prop} {X : (Nat → Int32) → Prop} (hX : ∀ f : Nat → Int32, (∀ i, i < 6 → f i = 0) → X f) :
    ∀ (m k : Nat) (f : Nat → Int32), k + m = 6 → (∀ i, i < k → f i = 0) → wp_X6_empty_12 x1 K X (m + 1) (nI k) f := by
  intro m
  induction m with
  | zero =>
    intro k f hk h1
    unfold wp_X6_empty_12
    exact ⟨fun _ => hX f (fun i hi => h1 i (by omega)), fun q => absurd (nI_le (a := 6) (by omega) (by omega)) q⟩
  | succ m ih =>
    intro k f hk h1
    unfold wp_X6_empty_12
    refine ⟨fun q => absurd q (nI_ge (b := 6) (by omega) (by omega)), fun _ => ⟨vp_in_nI (by omega) (by omega), ?_⟩⟩
    rw [nI_clamp (by omega), nI_1]
    refine ih (k + 1) _ (by omega) (fun i hi => ?_)
    by_cases e : i = k
    · subst e; rw [pk_us]
    · rw [pk_un e]; exact h1 i (by omega)

theorem ok_21 (j : Nat) (hj : j < 512) : lwOK21 (Rel j) (Rel (j + 1)) := by
  intro x1 x2 sz pr pm kv kn kr kt kb ks kj kw kg wd fw ad bk md cr ow hd mtd mnk mva mno mro mtu mbx mst mja mpr mcr mow mhd mmo mbk mca mfr mrs mrk mfe mus mgi maj h
  unfold lw_c21
  have h0 := Rel_mono j hj sz pr pm kv kn kr kt kb ks kj kw kg wd fw ad bk md cr ow hd mtd mnk mva mno mro mtu mbx mst mja mpr mcr mow mhd mmo mbk mca mfr mrs mrk mfe mus mgi maj h
  obtain ⟨n, V, R, T, P, c, o, m, ho, ⟨hK, hpm, hpr, ⟨rfl, hc, rfl, ho9, hj5, rfl, hm⟩, hhd, hfw⟩, rfl, rfl, rfl, rfl, rfl, ap, av, an, ar, au, ab, as, aj, ag, ak⟩ := h
  obtain ⟨rfl, hn, hv, hvd, hbb, hrt, hz⟩ := id hK
  unfold wp_X5_empty wp_X6_empty
  refine sp_boxV hn ?_
  unfold wp_X3_clearBox
  refine ⟨n + 1, sp_clearBox_loop hn (fun f hf1 hf2 => ⟨vp_in_l (by decide), vp_in_l (by decide), ?_⟩) n 0 kb (by omega) (fun i hi => by omega) (fun i _ => rfl)⟩
  have hf6 : ∀ i, i < 6 → f i = 0 := fun i hi => by
    rcases Nat.lt_or_ge i n with q | q
    · exact hf1 i q
    · rw [hf2 i q]; exact (hz i q hi).2.2.1
  refine sp_boxed hn ⟨7, sp_empty12 (fun f2 hf3 => ⟨vp_in_l (by decide), vp_in_l (by decide), ?_⟩) 6 0 mbx (by omega) (fun i hi => by omega)⟩
  have es : isum (fun i => kb i * kv i) n = isum (fun i => mbx i * mva i) n := isum_congr (fun i hi => by rw [ab i (by omega), av i (by omega)])
  rw [es]
  exact ⟨rfl, ⟨n, V, R, T, P, c, o, m, ho, ⟨hK.box (fun i _ hi6 => hf6 i hi6), hpm, hpr, ⟨rfl, hc, rfl, by omega, by omega, rfl, hm⟩, hhd, hfw⟩, rfl, rfl, rfl, rfl, rfl, ap, av, an, ar, au, fun i hi => (hf3 i hi).trans (hf6 i hi).symm, as, aj, ag, ak.up2 (by rw [ak _ (by decide)])⟩⟩
theorem ok_23 (j : Nat) (hj : j < 512) : lwOK23 (Rel j) (Rel (j + 1)) := by
  intro x1 x2 sz pr pm kv kn kr kt kb ks kj kw kg wd fw ad bk md cr ow hd mtd mnk mva mno mro mtu mbx mst mja mpr mcr mow mhd mmo mbk mca mfr mrs mrk mfe mus mgi maj h
  unfold lw_c23
  have h0 := Rel_mono j hj sz pr pm kv kn kr kt kb ks kj kw kg wd fw ad bk md cr ow hd mtd mnk mva mno mro mtu mbx mst mja mpr mcr mow mhd mmo mbk mca mfr mrs mrk mfe mus mgi maj h
  obtain ⟨n, V, R, T, P, c, o, m, ho, ⟨hK, hpm, hpr, ⟨rfl, hc, rfl, ho9, hj5, rfl, hm⟩, hhd, hfw⟩, rfl, rfl, rfl, rfl, rfl, ap, av, an, ar, au, ab, as, aj, ag, ak⟩ := h
  obtain ⟨rfl, hn, hv, hvd, hbb, hrt, hz⟩ := id hK
  unfold wp_X5_count wp_X6_count
  rcases isC x1 n hn kn with ⟨k, hk, rfl, hck⟩ | hx
  · have hin : vp_in (nI k) 6 := vp_in_nI (by omega) (by omega)
    have hcm : mno k = 0 := (an k (by omega)).trans hck
    obtain ⟨r1, r2, t1, t2⟩ := hrt k (by omega)
    refine sp_findCoin_y hk hn hck ⟨fun e => (by cases e), fun i e _ => ?_⟩
    cases e
    refine ⟨fun q => ?_, fun q => ⟨fun q2 => ?_, fun q2 => ?_⟩⟩
    · exact sp_isCoin_y hk hn hcm ⟨fun e => absurd e (by decide), fun _ => ⟨fun _ => ⟨rfl, h0⟩, fun q3 => absurd q q3⟩⟩
    · refine sp_isCoin_y hk hn hcm ⟨fun e => absurd e (by decide), fun _ => ⟨fun q3 => absurd q3 q, fun _ => ⟨hin, ?_⟩⟩⟩
      rw [nI_clamp (by omega), ar k (by omega)]
      exact ⟨fun _ => ⟨rfl, h0⟩, fun q3 => absurd q2 q3⟩
    · obtain ⟨y, hy, rfl⟩ := nI_of q
      have hyr : y ≤ R k := by
        rw [r1] at q2
        rcases Nat.lt_or_ge (R k) y with q | q
        · exact absurd (nI_lt q (by omega)) q2
        · exact q
      refine ⟨fun q4 => ⟨vp_in_l (by decide), vp_in_l (by decide), ?_⟩, fun q4 => ?_⟩
      · refine sp_isCoin_y hk hn hcm ⟨fun e => absurd e (by decide), fun _ => ⟨fun q3 => absurd q3 q, fun _ => ⟨hin, ?_⟩⟩⟩
        rw [nI_clamp (by omega), ar k (by omega), au k (by omega), av k (by omega)]
        refine ⟨fun q3 => absurd q3 q2, fun _ => ⟨fun _ => ⟨hin, hin, hin, vp_in_l (by decide), vp_in_l (by decide), rfl, ⟨n, V, R, st T k y, P, c, o, m, ho, ⟨hK.tube rfl hyr, hpm, hpr, ⟨rfl, hc, rfl, by omega, by omega, rfl, hm⟩, hhd, hfw⟩, rfl, rfl, rfl, rfl, rfl, ap, av, an, ar, au.up, ab, as, aj, ag, ak.up2 (by rw [ak _ (by decide)])⟩⟩, fun q3 => absurd ((nI_le0 (by omega)).mpr ((nI_z (by omega)).mp q4)) q3⟩⟩
      · refine sp_isCoin_y hk hn hcm ⟨fun e => absurd e (by decide), fun _ => ⟨fun q3 => absurd q3 q, fun _ => ⟨hin, ?_⟩⟩⟩
        rw [nI_clamp (by omega), ar k (by omega)]
        refine ⟨fun q3 => absurd q3 q2, fun _ => ⟨fun q3 => absurd ((nI_z (by omega)).mpr ((nI_le0 (by omega)).mp q3)) q4, fun _ => ⟨rfl, h0⟩⟩⟩
  · exact sp_findCoin_n hn hx ⟨fun _ => sp_isCoin_n hn (fun k hk e => by rw [an k (by omega)]; exact hx k hk e) ⟨fun _ => ⟨rfl, h0⟩, fun e => absurd rfl e⟩, fun i e => (by cases e)⟩
theorem ok_19 (j : Nat) (hj : j < 512) : lwOK19 (Rel j) (Rel (j + 1)) := by
  intro x1 x2 sz pr pm kv kn kr kt kb ks kj kw kg wd fw ad bk md cr ow hd mtd mnk mva mno mro mtu mbx mst mja mpr mcr mow mhd mmo mbk mca mfr mrs mrk mfe mus mgi maj h
  unfold lw_c19
  have h0 := Rel_mono j hj sz pr pm kv kn kr kt kb ks kj kw kg wd fw ad bk md cr ow hd mtd mnk mva mno mro mtu mbx mst mja mpr mcr mow mhd mmo mbk mca mfr mrs mrk mfe mus mgi maj h
  obtain ⟨n, V, R, T, P, c, o, m, ho, ⟨hK, hpm, hpr, ⟨rfl, hc, rfl, ho9, hj5, rfl, hm⟩, hhd, hfw⟩, rfl, rfl, rfl, rfl, rfl, ap, av, an, ar, au, ab, as, aj, ag, ak⟩ := h
  obtain ⟨rfl, hn, hv, hvd, hbb, hrt, hz⟩ := id hK
  unfold wp_X5_kind
  rcases isK x1 n hn with ⟨k, hk, rfl⟩ | hx
  · have hin : vp_in (nI k) 6 := vp_in_nI (by omega) (by omega)
    have hclk : (nI k).toNatClampNeg = k := nI_clamp (by omega)
    refine sp_find_y hk hn ⟨fun e => (by cases e), fun i e _ => ?_⟩
    cases e
    refine ⟨fun e => ?_, fun e => ⟨fun e2 => ?_, fun e2 => ?_⟩, fun e => ?_, fun e => ?_, fun e => ?_, fun e => ⟨fun e2 => ?_, fun e2 => ?_⟩, fun e => ?_, fun e0 e1 e2 e3 e4 e5 e6 => ?_⟩
    · subst e
      unfold wp_X6_kind
      exact sp_isKind_y hk hn ⟨fun e => absurd e (by decide), fun _ => ⟨fun q => absurd q (by decide), fun _ => ⟨fun _ => ⟨fun q => absurd rfl q, fun _ => ⟨hin, (by rw [nI_clamp (by omega)]; exact (av k (by omega)).symm), h0⟩⟩, fun q => absurd (by decide) q⟩⟩⟩
    · subst e
      unfold wp_X6_kind
      exact sp_isKind_y hk hn ⟨fun e => absurd e (by decide), fun _ => ⟨fun q => absurd q (by decide), fun _ => ⟨fun _ => ⟨fun _ => ⟨fun q => absurd rfl q, fun _ => ⟨hin, fun _ => ⟨rfl, h0⟩, fun q => absurd (by rw [hclk, an k (by omega)]; exact e2) q⟩⟩, fun q => absurd q (by decide)⟩, fun q => absurd (by decide) q⟩⟩⟩
    · subst e
      unfold wp_X6_kind
      exact sp_isKind_y hk hn ⟨fun e => absurd e (by decide), fun _ => ⟨fun q => absurd q (by decide), fun _ => ⟨fun _ => ⟨fun _ => ⟨fun q => absurd rfl q, fun _ => ⟨hin, fun q => absurd (by rw [hclk, an k (by omega)] at q; exact q) e2, fun _ => ⟨rfl, h0⟩⟩⟩, fun q => absurd q (by decide)⟩, fun q => absurd (by decide) q⟩⟩⟩
    · subst e
      unfold wp_X6_kind
      exact sp_isKind_y hk hn ⟨fun e => absurd e (by decide), fun _ => ⟨fun q => absurd q (by decide), fun _ => ⟨fun _ => ⟨fun _ => ⟨fun _ => ⟨fun q => absurd rfl q, fun _ => ⟨hin, (by rw [nI_clamp (by omega)]; exact (ar k (by omega)).symm), h0⟩⟩, fun q => absurd q (by decide)⟩, fun q => absurd q (by decide)⟩, fun q => absurd (by decide) q⟩⟩⟩
    · subst e
      unfold wp_X6_kind
      exact sp_isKind_y hk hn ⟨fun e => absurd e (by decide), fun _ => ⟨fun q => absurd q (by decide), fun _ => ⟨fun _ => ⟨fun _ => ⟨fun _ => ⟨fun _ => ⟨fun q => absurd rfl q, fun _ => ⟨hin, (by rw [nI_clamp (by omega)]; exact (au k (by omega)).symm), h0⟩⟩, fun q => absurd q (by decide)⟩, fun q => absurd q (by decide)⟩, fun q => absurd q (by decide)⟩, fun q => absurd (by decide) q⟩⟩⟩
    · subst e
      unfold wp_X6_kind
      exact sp_isKind_y hk hn ⟨fun e => absurd e (by decide), fun _ => ⟨fun q => absurd q (by decide), fun _ => ⟨fun _ => ⟨fun _ => ⟨fun _ => ⟨fun _ => ⟨fun _ => ⟨fun q => absurd rfl q, fun _ => ⟨hin, (by rw [nI_clamp (by omega)]; exact (ab k (by omega)).symm), h0⟩⟩, fun q => absurd q (by decide)⟩, fun q => absurd q (by decide)⟩, fun q => absurd q (by decide)⟩, fun q => absurd q (by decide)⟩, fun q => absurd (by decide) q⟩⟩⟩
    · subst e
      unfold wp_X6_kind
      exact sp_isKind_y hk hn ⟨fun e => absurd e (by decide), fun _ => ⟨fun q => absurd q (by decide), fun _ => ⟨fun _ => ⟨fun _ => ⟨fun _ => ⟨fun _ => ⟨fun _ => ⟨fun _ => ⟨fun q => absurd rfl q, fun _ => ⟨hin, fun _ => ⟨rfl, h0⟩, fun q => absurd (by rw [hclk, as k (by omega)]; exact e2) q⟩⟩, fun q => absurd q (by decide)⟩, fun q => absurd q (by decide)⟩, fun q => absurd q (by decide)⟩, fun q => absurd q (by decide)⟩, fun q => absurd q (by decide)⟩, fun q => absurd (by decide) q⟩⟩⟩
    · subst e
      unfold wp_X6_kind
      exact sp_isKind_y hk hn ⟨fun e => absurd e (by decide), fun _ => ⟨fun q => absurd q (by decide), fun _ => ⟨fun _ => ⟨fun _ => ⟨fun _ => ⟨fun _ => ⟨fun _ => ⟨fun _ => ⟨fun q => absurd rfl q, fun _ => ⟨hin, fun q => absurd (by rw [hclk, as k (by omega)] at q; exact q) e2, fun _ => ⟨rfl, h0⟩⟩⟩, fun q => absurd q (by decide)⟩, fun q => absurd q (by decide)⟩, fun q => absurd q (by decide)⟩, fun q => absurd q (by decide)⟩, fun q => absurd q (by decide)⟩, fun q => absurd (by decide) q⟩⟩⟩
    · subst e
      unfold wp_X6_kind
      exact sp_isKind_y hk hn ⟨fun e => absurd e (by decide), fun _ => ⟨fun q => absurd q (by decide), fun _ => ⟨fun _ => ⟨fun _ => ⟨fun _ => ⟨fun _ => ⟨fun _ => ⟨fun _ => ⟨fun _ => ⟨hin, (by rw [nI_clamp (by omega)]; exact (aj k (by omega)).symm), h0⟩, fun q => absurd q (by decide)⟩, fun q => absurd q (by decide)⟩, fun q => absurd q (by decide)⟩, fun q => absurd q (by decide)⟩, fun q => absurd q (by decide)⟩, fun q => absurd q (by decide)⟩, fun q => absurd (by decide) q⟩⟩⟩
    · unfold wp_X6_kind
      refine sp_isKind_y hk hn ⟨fun e => absurd e (by decide), fun _ => ⟨fun _ => ⟨rfl, h0⟩, fun q => ⟨fun q2 => ?_, fun _ => ⟨rfl, h0⟩⟩⟩⟩
      obtain ⟨y, hy, rfl⟩ := nI_of2 (M := 6) (n := 6) rfl q q2
      exfalso
      rcases (show y = 0 ∨ y = 1 ∨ y = 2 ∨ y = 3 ∨ y = 4 ∨ y = 5 ∨ y = 6 by omega) with rfl | rfl | rfl | rfl | rfl | rfl | rfl
      · exact e0 rfl
      · exact e1 rfl
      · exact e2 rfl
      · exact e3 rfl
      · exact e4 rfl
      · exact e5 rfl
      · exact e6 rfl
  · exact sp_find_n hn hx ⟨fun _ => (by unfold wp_X6_kind; exact sp_isKind_n hn hx ⟨fun _ => ⟨rfl, h0⟩, fun e => absurd rfl e⟩), fun i e => (by cases e)⟩
theorem ok_18 (j : Nat) (hj : j < 512) : lwOK18 (Rel j) (Rel (j + 1)) := by
  intro x1 x2 sz pr pm kv kn kr kt kb ks kj kw kg wd fw ad bk md cr ow hd mtd mnk mva mno mro mtu mbx mst mja mpr mcr mow mhd mmo mbk mca mfr mrs mrk mfe mus mgi maj h
  unfold lw_c18
  have h0 := Rel_mono j hj sz pr pm kv kn kr kt kb ks kj kw kg wd fw ad bk md cr ow hd mtd mnk mva mno mro mtu mbx mst mja mpr mcr mow mhd mmo mbk mca mfr mrs mrk mfe mus mgi maj h
  obtain ⟨n, V, R, T, P, c, o, m, ho, ⟨hK, hpm, hpr, ⟨rfl, hc, rfl, ho9, hj5, rfl, hm⟩, hhd, hfw⟩, rfl, rfl, rfl, rfl, rfl, ap, av, an, ar, au, ab, as, aj, ag, ak⟩ := h
  obtain ⟨rfl, hn, hv, hvd, hbb, hrt, hz⟩ := id hK
  unfold wp_X5_look
  unfold jn
  have hvm : ∀ i, i < n → mva i = nI (V i) := fun i hi => (av i (by omega)).trans (hv i hi).1
  have es : isum (fun i => kb i * kv i) n = isum (fun i => mbx i * mva i) n := isum_congr (fun i hi => by rw [ab i (by omega), av i (by omega)])
  have et : isum (fun i => kt i * kv i) n = isum (fun i => mtu i * mva i) n := isum_congr (fun i hi => by rw [au i (by omega), av i (by omega)])
  by_cases c0 : x1 = (0 : Int32)
  · subst c0
    exact ⟨fun _ => ⟨fun _ => (by unfold wp_X6_look; exact ⟨fun q => absurd rfl q, fun _ => ⟨rfl, h0⟩⟩), fun q => absurd q (by decide), fun q => absurd q (by decide), fun q => absurd q (by decide), fun q => absurd q (by decide), fun q => absurd q (by decide), fun q => absurd q (by decide), fun q0 q1 q2 q3 q4 q5 q6 => absurd rfl q0⟩, fun q => absurd (by decide) q⟩
  by_cases c1 : x1 = (1 : Int32)
  · subst c1
    exact ⟨fun _ => ⟨fun q => absurd q (by decide), fun _ => (by unfold wp_X6_look; exact ⟨fun _ => ⟨fun q => absurd rfl q, fun _ => ⟨rfl, h0⟩⟩, fun q => absurd q (by decide)⟩), fun q => absurd q (by decide), fun q => absurd q (by decide), fun q => absurd q (by decide), fun q => absurd q (by decide), fun q => absurd q (by decide), fun q0 q1 q2 q3 q4 q5 q6 => absurd rfl q1⟩, fun q => absurd (by decide) q⟩
  by_cases c2 : x1 = (2 : Int32)
  · subst c2
    exact ⟨fun _ => ⟨fun q => absurd q (by decide), fun q => absurd q (by decide), fun _ => (by unfold wp_X6_look; exact ⟨fun _ => ⟨fun _ => ⟨fun q => absurd rfl q, fun _ => ⟨rfl, h0⟩⟩, fun q => absurd q (by decide)⟩, fun q => absurd q (by decide)⟩), fun q => absurd q (by decide), fun q => absurd q (by decide), fun q => absurd q (by decide), fun q => absurd q (by decide), fun q0 q1 q2 q3 q4 q5 q6 => absurd rfl q2⟩, fun q => absurd (by decide) q⟩
  by_cases c3 : x1 = (3 : Int32)
  · subst c3
    exact ⟨fun _ => ⟨fun q => absurd q (by decide), fun q => absurd q (by decide), fun q => absurd q (by decide), fun _ => (by unfold wp_X6_look; exact ⟨fun _ => ⟨fun _ => ⟨fun _ => ⟨fun q => absurd rfl q, fun _ => ⟨rfl, h0⟩⟩, fun q => absurd q (by decide)⟩, fun q => absurd q (by decide)⟩, fun q => absurd q (by decide)⟩), fun q => absurd q (by decide), fun q => absurd q (by decide), fun q => absurd q (by decide), fun q0 q1 q2 q3 q4 q5 q6 => absurd rfl q3⟩, fun q => absurd (by decide) q⟩
  by_cases c4 : x1 = (4 : Int32)
  · subst c4
    exact ⟨fun _ => ⟨fun q => absurd q (by decide), fun q => absurd q (by decide), fun q => absurd q (by decide), fun q => absurd q (by decide), fun _ => (by unfold wp_X6_look; exact ⟨fun _ => ⟨fun _ => ⟨fun _ => ⟨fun _ => ⟨fun q => absurd rfl q, fun _ => ⟨rfl, h0⟩⟩, fun q => absurd q (by decide)⟩, fun q => absurd q (by decide)⟩, fun q => absurd q (by decide)⟩, fun q => absurd q (by decide)⟩), fun q => absurd q (by decide), fun q => absurd q (by decide), fun q0 q1 q2 q3 q4 q5 q6 => absurd rfl q4⟩, fun q => absurd (by decide) q⟩
  by_cases c5 : x1 = (5 : Int32)
  · subst c5
    refine ⟨fun _ => ⟨fun q => absurd q (by decide), fun q => absurd q (by decide), fun q => absurd q (by decide), fun q => absurd q (by decide), fun q => absurd q (by decide), fun _ => ?_, fun q => absurd q (by decide), fun q0 q1 q2 q3 q4 q5 q6 => absurd rfl q5⟩, fun q => absurd (by decide) q⟩
    refine sp_tubesV hn (sp_boxV hn (sp_heldC hn hv hhd ?_))
    unfold wp_X6_look
    refine ⟨fun _ => ⟨fun _ => ⟨fun _ => ⟨fun _ => ⟨fun _ => ⟨fun q => absurd rfl q, fun _ => ?_⟩, fun q => absurd q (by decide)⟩, fun q => absurd q (by decide)⟩, fun q => absurd q (by decide)⟩, fun q => absurd q (by decide)⟩, fun q => absurd q (by decide)⟩
    refine sp_boxed hn (sp_heldM hn hvm hhd ⟨n + 1, ?_⟩)
    have lp := sp_look71 (a := isum (fun i => mbx i * mva i) n + nI (hval V ho)) (mva := mva) (mtu := mtu) (K := fun (r2 : Int32) (mtd' : Int32) => isum (fun i => kt i * kv i) n + isum (fun i => kb i * kv i) n + nI (hval V ho) = r2 ∧ Rel (j + 1) (nI n) pr pm kv kn kr kt kb ks kj kw kg wd fw ad bk (nI m) (nI c) (nI o) mhd mtd' (nI n) mva mno mro mtu mbx mst mja mpr (nI c) (nI o) mhd (nI m) mbk mca mfr mrs mrk mfe mus mgi maj) (X := fun x2_14 => isum (fun i => kt i * kv i) n + isum (fun i => kb i * kv i) n + nI (hval V ho) = x2_14 ∧ Rel (j + 1) (nI n) pr pm kv kn kr kt kb ks kj kw kg wd fw ad bk (nI m) (nI c) (nI o) mhd 0 (nI n) mva mno mro mtu mbx mst mja mpr (nI c) (nI o) mhd (nI m) mbk mca mfr mrs mrk mfe mus mgi maj) hn ⟨?_, h0⟩ n 0 (by omega)
    · rw [show isum (fun i => mtu i * mva i) 0 = 0 from rfl, Int32.add_zero] at lp
      exact lp
    · rw [es, et, Int32.add_assoc, Int32.add_comm]
  by_cases c6 : x1 = (6 : Int32)
  · subst c6
    refine ⟨fun _ => ⟨fun q => absurd q (by decide), fun q => absurd q (by decide), fun q => absurd q (by decide), fun q => absurd q (by decide), fun q => absurd q (by decide), fun q => absurd q (by decide), fun _ => ?_, fun q0 q1 q2 q3 q4 q5 q6 => absurd rfl q6⟩, fun q => absurd (by decide) q⟩
    refine sp_boxV hn ?_
    unfold wp_X6_look
    refine ⟨fun _ => ⟨fun _ => ⟨fun _ => ⟨fun _ => ⟨fun _ => ⟨fun _ => ⟨fun q => absurd rfl q, fun _ => ?_⟩, fun q => absurd q (by decide)⟩, fun q => absurd q (by decide)⟩, fun q => absurd q (by decide)⟩, fun q => absurd q (by decide)⟩, fun q => absurd q (by decide)⟩, fun q => absurd q (by decide)⟩
    exact sp_boxed hn ⟨es, h0⟩
  have dflt : (x1 < 10 ∨ (16 : Int32) ≤ x1) → wp_X6_look x1 mtd (nI n) mva mtu mbx (nI c) (nI o) mhd (nI m) mbk (fun (r2 : Int32) (mtd' : Int32) => -1000000 = r2 ∧ Rel (j + 1) (nI n) pr pm kv kn kr kt kb ks kj kw kg wd fw ad bk (nI m) (nI c) (nI o) mhd mtd' (nI n) mva mno mro mtu mbx mst mja mpr (nI c) (nI o) mhd (nI m) mbk mca mfr mrs mrk mfe mus mgi maj) := by
    intro hh
    unfold wp_X6_look
    refine ⟨fun _ => ⟨fun _ => ⟨fun _ => ⟨fun _ => ⟨fun _ => ⟨fun _ => ⟨fun _ => ⟨fun _ => ⟨rfl, h0⟩, fun q1 => ⟨fun _ => ⟨rfl, h0⟩, fun q2 => ?_⟩⟩, fun q => absurd q c6⟩, fun q => absurd q c5⟩, fun q => absurd q c4⟩, fun q => absurd q c3⟩, fun q => absurd q c2⟩, fun q => absurd q c1⟩, fun q => absurd q c0⟩
    rcases hh with hh | hh
    · exact absurd hh q1
    · exact absurd hh q2
  refine ⟨fun q => ⟨fun q => absurd q c0, fun q => absurd q c1, fun q => absurd q c2, fun q => absurd q c3, fun q => absurd q c4, fun q => absurd q c5, fun q => absurd q c6, fun _ _ _ _ _ _ _ => dflt (Or.inl q)⟩, fun q1 => ⟨fun q => ⟨fun q => absurd q c0, fun q => absurd q c1, fun q => absurd q c2, fun q => absurd q c3, fun q => absurd q c4, fun q => absurd q c5, fun q => absurd q c6, fun _ _ _ _ _ _ _ => dflt (Or.inr q)⟩, fun q2 => ?_⟩⟩
  obtain ⟨y, hy, rfl⟩ := nI_of (x := x1) (fun q => q1 (by rw [i_lt] at q ⊢; have e : (0 : Int32).toInt = 0 := rfl; have e2 : (10 : Int32).toInt = 10 := rfl; omega))
  have hy1 : 10 ≤ y := (nI_leI (a := 10) (by omega) (by omega)).mp (nlt_le q1)
  have hy2 : y < 16 := (nI_ltI (b := 16) (by omega) (by omega)).mp (nle_lt q2)
  have ey : nI y - 10 = nI (y - 10) := pk_sub (b := 10) hy1
  rw [ey]
  have hin : vp_in (nI (y - 10)) 6 := vp_in_nI (by omega) (by omega)
  refine ⟨hin, ?_⟩
  unfold wp_X6_look
  rw [ey]
  refine ⟨fun _ => ⟨fun _ => ⟨fun _ => ⟨fun _ => ⟨fun _ => ⟨fun _ => ⟨fun _ => ⟨fun q => absurd q q1, fun _ => ⟨fun q => absurd q q2, fun _ => ⟨hin, ?_, h0⟩⟩⟩, fun q => absurd q c6⟩, fun q => absurd q c5⟩, fun q => absurd q c4⟩, fun q => absurd q c3⟩, fun q => absurd q c2⟩, fun q => absurd q c1⟩, fun q => absurd q c0⟩
  rw [nI_clamp (by omega)]
  exact (ak _ (by omega)).symm
