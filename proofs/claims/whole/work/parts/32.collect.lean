/-! pure: the class's sums -/
def KN (n : Nat) (V T : Nat → Nat) (sz : Int32) (kv kt : Nat → Int32) : Prop := sz = nI n ∧ n ≤ 6 ∧ (∀ i, i < n → kv i = nI (V i) ∧ 1 ≤ V i ∧ V i ≤ 200) ∧ (∀ i, i < n → kt i = nI (T i) ∧ T i ≤ 20)
theorem spN_le {kn ks : Nat → Int32} {T : Nat → Nat} {r i : Nat} : spN kn ks T r i ≤ T i := by
  unfold spN
  by_cases h : gvs kn ks i = true
  · rw [if_pos h]; omega
  · rw [if_neg h]; omega
theorem sp_collect_loop {j r n : Nat} {V T : Nat → Nat} {sz : Int32} {kv kn kt ks : Nat → Int32} {wd : Nat → Nat → Int64} {K X : (Nat → Nat → Int64) → Prop} (h : KN n V T sz kv kt) (hr : r ≤ 20)
    (hX : ∀ wd2, (∀ i, i ≠ j → wd2 i = wd i) → (∀ s, s < 1024 → (bw (wd2 j) s = true ↔ Rc n V (spN kn ks T r) s)) → X wd2) :
    ∀ (m k : Nat) (wd2 : Nat → Nat → Int64), k + m = n → (∀ i, i ≠ j → wd2 i = wd i) → (∀ s, s < 1024 → (bw (wd2 j) s = true ↔ Rc n V (fun i => if i < k then spN kn ks T r i else 0) s)) → wp_X3_collect_6 j (nI r) sz kv kn kt ks K X (m + 1) (nI k) wd2 := by
  obtain ⟨rfl, hn, hv, ht⟩ := h
  intro m
  induction m with
  | zero =>
    intro k wd2 hk h1 h2
    unfold wp_X3_collect_6
    refine ⟨fun _ => hX wd2 h1 (fun s hs => (h2 s hs).trans (Rc_congr (fun i hi => by rw [if_pos (by omega)]))), fun c => absurd (nI_le (by omega) (by omega)) c⟩
  | succ m ih =>
    intro k wd2 hk h1 h2
    unfold wp_X3_collect_6
    have hin : vp_in (nI k) 6 := vp_in_nI (by omega) (by omega)
    refine ⟨fun c => absurd c (nI_ge (by omega) (by omega)), fun _ => ⟨hin, hin, ?_⟩⟩
    rw [nI_clamp (by omega), nI_1]
    obtain ⟨hv1, hv2, hv3⟩ := hv k (by omega)
    obtain ⟨ht1, ht2⟩ := ht k (by omega)
    refine sp_spare ht1 (by omega) (by omega) ?_
    rw [hv1]
    refine sp_addCoins hv3 (Nat.le_trans spN_le ht2) (fun wd3 h3 h4 => ?_)
    refine ih (k + 1) wd3 (by omega) (fun i hi => (h3 i hi).trans (h1 i hi)) (fun s hs => ?_)
    rw [h4 s hs]
    have e : Rc n V (fun i => if i < k + 1 then spN kn ks T r i else 0) s ↔ Rc n V (st (fun i => if i < k then spN kn ks T r i else 0) k ((fun i => if i < k then spN kn ks T r i else 0) k + spN kn ks T r k)) s := by
      refine Rc_congr (fun i hi => ?_)
      by_cases e : i = k
      · subst e; rw [st_s]; simp
      · rw [st_n e]
        by_cases e2 : i < k
        · simp [e2, show i < k + 1 by omega]
        · simp [e2, show ¬ i < k + 1 by omega]
    rw [e, Rc_bump (show k < n by omega)]
    constructor
    · rintro ⟨c, c1, c2, c3⟩; exact ⟨c, c1, c2, (h2 _ (by omega)).mp c3⟩
    · rintro ⟨c, c1, c2, c3⟩; exact ⟨c, c1, c2, (h2 _ (by omega)).mpr c3⟩
theorem sp_collect {j r n : Nat} {V T : Nat → Nat} {sz : Int32} {kv kn kt ks : Nat → Int32} {wd : Nat → Nat → Int64} {K : (Nat → Nat → Int64) → Prop} (h : KN n V T sz kv kt) (hr : r ≤ 20)
    (hK : ∀ wd2, (∀ i, i ≠ j → wd2 i = wd i) → (∀ s, s < 1024 → (bw (wd2 j) s = true ↔ Rc n V (spN kn ks T r) s)) → K wd2) : wp_X3_collect j (nI r) sz kv kn kt ks wd K := by
  unfold wp_X3_collect
  refine sp_onlyZero (fun wd2 h1 h2 => ⟨n + 1, ?_⟩)
  refine sp_collect_loop (K := K) (X := fun wd2 => K wd2) (wd := wd) h hr hK n 0 wd2 (by omega) h1 (fun s hs => ?_)
  rw [h2 s hs]
  exact Rc_0.symm.trans (Rc_congr (fun i hi => by simp))
theorem sp_oneEach_loop {j n : Nat} {V T sp : Nat → Nat} {sz : Int32} {kv kn kt ks : Nat → Int32} {wd : Nat → Nat → Int64} {K X : (Nat → Nat → Int64) → Prop} (h : KN n V T sz kv kt)
    (hX : ∀ wd2, (∀ i, i ≠ j → wd2 i = wd i) → (∀ s, s < 1024 → (bw (wd2 j) s = true ↔ Rc n V (fun i => sp i + if gvs kn ks i = true then 1 else 0) s)) → X wd2) :
    ∀ (m k : Nat) (wd2 : Nat → Nat → Int64), k + m = n → (∀ i, i ≠ j → wd2 i = wd i) → (∀ s, s < 1024 → (bw (wd2 j) s = true ↔ Rc n V (fun i => if i < k then sp i + (if gvs kn ks i = true then 1 else 0) else sp i) s)) → wp_X3_collectOneOfEach_2 j sz kv kn ks K X (m + 1) (nI k) wd2 := by
  obtain ⟨rfl, hn, hv, ht⟩ := h
  intro m
  induction m with
  | zero =>
    intro k wd2 hk h1 h2
    unfold wp_X3_collectOneOfEach_2
    refine ⟨fun _ => hX wd2 h1 (fun s hs => (h2 s hs).trans (Rc_congr (fun i hi => by rw [if_pos (by omega)]))), fun c => absurd (nI_le (by omega) (by omega)) c⟩
  | succ m ih =>
    intro k wd2 hk h1 h2
    unfold wp_X3_collectOneOfEach_2
    have hin : vp_in (nI k) 6 := vp_in_nI (by omega) (by omega)
    refine ⟨fun c => absurd c (nI_ge (by omega) (by omega)), fun _ => ⟨hin, ?_⟩⟩
    rw [nI_clamp (by omega), nI_1]
    obtain ⟨hv1, hv2, hv3⟩ := hv k (by omega)
    refine sp_gives ⟨fun c => ?_, fun c => ⟨hin, ?_⟩⟩
    · rw [b2_0] at c
      refine ih (k + 1) wd2 (by omega) h1 (fun s hs => ?_)
      rw [h2 s hs]
      refine Rc_congr (fun i hi => ?_)
      by_cases e : i = k
      · subst e; simp [c]
      · by_cases e2 : i < k
        · simp [e2, show i < k + 1 by omega]
        · simp [e2, show ¬ i < k + 1 by omega]
    · rw [b2_n0] at c
      rw [hv1]
      refine sp_addCoins (n := 1) hv3 (by omega) (fun wd3 h3 h4 => ?_)
      refine ih (k + 1) wd3 (by omega) (fun i hi => (h3 i hi).trans (h1 i hi)) (fun s hs => ?_)
      rw [h4 s hs]
      have e : Rc n V (fun i => if i < k + 1 then sp i + (if gvs kn ks i = true then 1 else 0) else sp i) s ↔ Rc n V (st (fun i => if i < k then sp i + (if gvs kn ks i = true then 1 else 0) else sp i) k ((fun i => if i < k then sp i + (if gvs kn ks i = true then 1 else 0) else sp i) k + 1)) s := by
        refine Rc_congr (fun i hi => ?_)
        by_cases e : i = k
        · subst e; rw [st_s]; simp [c]
        · rw [st_n e]
          by_cases e2 : i < k
          · simp [e2, show i < k + 1 by omega]
          · simp [e2, show ¬ i < k + 1 by omega]
      rw [e, Rc_bump (show k < n by omega)]
      constructor
      · rintro ⟨c, c1, c2, c3⟩; exact ⟨c, c1, c2, (h2 _ (by omega)).mp c3⟩
      · rintro ⟨c, c1, c2, c3⟩; exact ⟨c, c1, c2, (h2 _ (by omega)).mpr c3⟩
theorem sp_oneEach {j n : Nat} {V T sp : Nat → Nat} {sz : Int32} {kv kn kt ks : Nat → Int32} {wd : Nat → Nat → Int64} {K : (Nat → Nat → Int64) → Prop} (h : KN n V T sz kv kt) (h0 : ∀ s, s < 1024 → (bw (wd j) s = true ↔ Rc n V sp s))
    (hK : ∀ wd2, (∀ i, i ≠ j → wd2 i = wd i) → (∀ s, s < 1024 → (bw (wd2 j) s = true ↔ Rc n V (fun i => sp i + if gvs kn ks i = true then 1 else 0) s)) → K wd2) : wp_X3_collectOneOfEach j sz kv kn ks wd K := by
  unfold wp_X3_collectOneOfEach
  refine ⟨n + 1, sp_oneEach_loop (K := K) (X := fun wd2 => K wd2) (T := T) (sp := sp) (wd := wd) h hK n 0 wd (by omega) (fun _ _ => rfl) (fun s hs => ?_)⟩
  rw [h0 s hs]
  exact Rc_congr (fun i hi => by simp)
/-- has, or would have with one more of own -/
def Qw (f : Nat → Int64) (own s : Nat) : Prop := bw f s = true ∨ (0 < own ∧ own ≤ s ∧ bw f (s - own) = true)
theorem sp_hasWith {j s o : Nat} {wd : Nat → Nat → Int64} {K : Int32 → Prop} (hs : s ≤ 999) (ho : o ≤ 200) (h1 : Qw (wd j) o s → K 1) (h0 : ¬ Qw (wd j) o s → K 0) : wp_X2_hasWith j (nI s) (nI o) wd K := by
  unfold wp_X2_hasWith
  refine sp_has hs ⟨fun c => h1 (Or.inl (b2_n0.mp c)), fun c => ?_⟩
  rw [b2_0] at c
  refine ⟨fun c2 => h0 ?_, fun c2 => ?_⟩
  · rintro (q | ⟨q, -⟩)
    · rw [c] at q; cases q
    · exact absurd c2 (nI_nle q (by omega))
  · have ho0 : 0 < o := by
      rcases Nat.eq_zero_or_pos o with e | e
      · subst e; exact absurd (by decide) c2
      · exact e
    by_cases hle : o ≤ s
    · rw [pk_sub hle]
      refine sp_has (by omega) ⟨fun c3 => h0 ?_, fun c3 => h1 (Or.inr ⟨ho0, hle, b2_n0.mp c3⟩)⟩
      rw [b2_0] at c3
      rintro (q | ⟨-, -, q⟩)
      · rw [c] at q; cases q
      · rw [c3] at q; cases q
    · refine sp_has_out (Or.inl ?_) ⟨fun _ => h0 ?_, fun c3 => absurd rfl c3⟩
      · rw [Int32.lt_iff_toInt_lt, pk_sub_toInt (by omega) (by omega)]
        show _ < (0 : Int)
        omega
      · rintro (q | ⟨-, q, -⟩)
        · rw [c] at q; cases q
        · exact hle q
def MTp (Q : Nat → Prop) (c nv : Nat) (P : Nat → Nat) : Prop := c ≤ 999 ∧ Q (c - nv) ∧ ∀ p, p < 6 → 0 < P p → P p ≤ c → Q (c - P p)
theorem sp_mayTake_loop {j c o : Nat} {P : Nat → Nat} {pr : Nat → Int32} {wd : Nat → Nat → Int64} {K : Int32 → Prop} {X : Prop} (hc : c ≤ 999) (ho : o ≤ 200) (hp : ∀ p, p < 6 → pr p = nI (P p) ∧ P p ≤ 300)
    (hX : (∀ p, p < 6 → 0 < P p → P p ≤ c → Qw (wd j) o (c - P p)) → X) (h0 : (¬ ∀ p, p < 6 → 0 < P p → P p ≤ c → Qw (wd j) o (c - P p)) → K 0) :
    ∀ (m k : Nat), k + m = 6 → (∀ p, p < k → 0 < P p → P p ≤ c → Qw (wd j) o (c - P p)) → wp_X3_mayTake_50 j (nI c) (nI o) pr wd K X (m + 1) (nI k) := by
  intro m
  induction m with
  | zero =>
    intro k hk h
    unfold wp_X3_mayTake_50
    refine ⟨fun _ => hX (fun p hp => h p (by omega)), fun q => absurd (nI_le (a := 6) (by omega) (by omega)) q⟩
  | succ m ih =>
    intro k hk h
    unfold wp_X3_mayTake_50
    have hin : vp_in (nI k) 6 := vp_in_nI (by omega) (by omega)
    refine ⟨fun q => absurd q (nI_ge (b := 6) (by omega) (by omega)), fun _ => ⟨hin, ?_⟩⟩
    rw [nI_clamp (by omega), nI_1]
    obtain ⟨e, hP⟩ := hp k (by omega)
    rw [e]
    have go : (0 < P k → P k ≤ c → Qw (wd j) o (c - P k)) → wp_X3_mayTake_50 j (nI c) (nI o) pr wd K X (m + 1) (nI (k + 1)) := fun hq => ih (k + 1) (by omega) (fun p hp h1 h2 => by
      by_cases e : p = k
      · subst e; exact hq h1 h2
      · exact h p (by omega) h1 h2)
    refine ⟨fun q => go (fun h1 _ => absurd q (nI_nle h1 (by omega))), fun q => ⟨fun q2 => go (fun _ h2 => absurd q2 (nI_nlt h2 (by omega))), fun q2 => ?_⟩⟩
    have hle : P k ≤ c := by
      rcases Nat.lt_or_ge c (P k) with t | t
      · exact absurd (nI_lt t (by omega)) q2
      · exact t
    have hpos : 0 < P k := by
      rcases Nat.eq_zero_or_pos (P k) with t | t
      · rw [t] at q; exact absurd (by decide) q
      · exact t
    rw [pk_sub hle]
    refine sp_hasWith (by omega) ho (fun hq => ⟨fun _ => go (fun _ _ => hq), fun q3 => absurd q3 (by decide)⟩) (fun hq => ⟨fun q3 => absurd rfl q3, fun _ => h0 (fun hall => hq (hall k (by omega) hpos hle))⟩)
def ownV (fit : Int32) (kn ks : Nat → Int32) (i v : Nat) : Nat := if fit = 0 then 0 else if gvs kn ks i = true then v else 0
theorem sp_mayTake {i j c nv v : Nat} {P : Nat → Nat} {fit : Int32} {pr kv kn ks : Nat → Int32} {wd : Nat → Nat → Int64} {K : Int32 → Prop} (hc : c ≤ 2000) (hnv : nv ≤ c) (hp : ∀ p, p < 6 → pr p = nI (P p) ∧ P p ≤ 300) (hv : kv i = nI v) (hv2 : v ≤ 200)
    (h1 : MTp (Qw (wd j) (ownV fit kn ks i v)) c nv P → K 1) (h0 : ¬ MTp (Qw (wd j) (ownV fit kn ks i v)) c nv P → K 0) : wp_X3_mayTake i fit j (nI c) (nI nv) pr kv kn ks wd K := by
  unfold wp_X3_mayTake
  refine ⟨fun q => ?_, fun q => h0 (fun hm => absurd (nI_le (b := 999) hm.1 (by omega)) q)⟩
  have hc9 : c ≤ 999 := (nI_leI (b := 999) (by omega) (by omega)).mp q
  have fin : wp_X2_hasWith j (nI c - nI nv) (nI (ownV fit kn ks i v)) wd (fun (r_3 : Int32) => ((¬ r_3 = 0 → ∃ n5 : Nat, wp_X3_mayTake_50 j (nI c) (nI (ownV fit kn ks i v)) pr wd K (K (1 : Int32)) n5 (0 : Int32)) ∧ (r_3 = 0 → K (0 : Int32)))) := by
    have ho : ownV fit kn ks i v ≤ 200 := by
      unfold ownV
      by_cases e : fit = 0
      · rw [if_pos e]; omega
      · rw [if_neg e]
        by_cases e2 : gvs kn ks i = true
        · rw [if_pos e2]; omega
        · rw [if_neg e2]; omega
    rw [pk_sub hnv]
    refine sp_hasWith (by omega) ho (fun hq => ⟨fun _ => ⟨7, ?_⟩, fun q3 => absurd q3 (by decide)⟩) (fun hq => ⟨fun q3 => absurd rfl q3, fun _ => h0 (fun hm => hq hm.2.1)⟩)
    exact sp_mayTake_loop hc9 ho hp (fun hall => h1 ⟨hc9, hq, hall⟩) (fun hn => h0 (fun hm => hn hm.2.2)) 6 0 (by omega) (fun p hp => by omega)
  unfold jn
  unfold ownV at fin
  refine ⟨fun e => ?_, fun e => sp_gives ⟨fun e2 => ?_, fun e2 => ?_⟩⟩
  · rw [if_pos e] at fin; exact fin
  · rw [b2_0] at e2
    rw [if_neg e, if_neg (by rw [e2]; decide)] at fin
    exact fin
  · rw [b2_n0] at e2
    rw [if_neg e, if_pos e2, ← hv] at fin
    exact fin
