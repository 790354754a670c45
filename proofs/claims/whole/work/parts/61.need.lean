/-! need: the reference -/
theorem sp_canAdd {n : Nat} {R T a : Nat → Nat} {kn mno mro mtu maj : Nat → Int32} {K : Int32 → Prop} (hn : n ≤ 6) (an : Eq6 mno kn) (hr : ∀ i, i < 6 → mro i = nI (R i) ∧ R i ≤ 20 ∧ mtu i = nI (T i) ∧ T i ≤ R i) (ha : ∀ i, i < 6 → maj i = nI (a i) ∧ a i ≤ 4) (h1 : FitR n R T kn a → K 1) (h0 : ¬ FitR n R T kn a → K 0) : wp_X6_canAdd (nI n) mno mro mtu maj K := by
  unfold wp_X6_canAdd
  have lp : ∀ (m k : Nat), k + m = 6 → (∀ i, i < k → 0 < a i → i < n ∧ kn i = 0 ∧ T i + a i ≤ R i) → wp_X6_canAdd_2 (nI n) mno mro mtu maj K (K 1) (m + 1) (nI k) := by
    intro m
    induction m with
    | zero =>
      intro k hk h
      unfold wp_X6_canAdd_2
      exact ⟨fun _ => h1 (fun i hi => h i (by omega)), fun q => absurd (nI_le (a := 6) (by omega) (by omega)) q⟩
    | succ m ih =>
      intro k hk h
      unfold wp_X6_canAdd_2
      have hin : vp_in (nI k) 6 := vp_in_nI (by omega) (by omega)
      obtain ⟨r1, r2, t1, t2⟩ := hr k (by omega)
      obtain ⟨a1, a2⟩ := ha k (by omega)
      have go : (0 < a k → k < n ∧ kn k = 0 ∧ T k + a k ≤ R k) → wp_X6_canAdd_2 (nI n) mno mro mtu maj K (K 1) (m + 1) (nI (k + 1)) := fun hh => ih (k + 1) (by omega) (fun i hi => by
        by_cases e : i = k
        · subst e; exact hh
        · exact h i (by omega))
      rw [nI_clamp (show k < 2 ^ 31 by omega), nI_1, a1, r1, t1, nI_add]
      refine ⟨fun q => absurd q (nI_ge (b := 6) (by omega) (by omega)), fun _ => ⟨hin, fun q => go (fun hh => ?_), fun q => ?_⟩⟩
      · have := (nI_le0 (by omega)).mp q; omega
      · have hpos : 0 < a k := by
          rcases Nat.eq_zero_or_pos (a k) with e | e
          · exact absurd ((nI_le0 (by omega)).mpr e) q
          · exact e
        by_cases hc : k < n ∧ kn k = 0
        · refine sp_isCoin_y hc.1 hn (by rw [an k (by omega)]; exact hc.2) ⟨fun q => absurd q (by decide), fun _ => ⟨hin, hin, hin, fun q2 => go (fun _ => ⟨hc.1, hc.2, (nI_leI (by omega) (by omega)).mp q2⟩), fun q2 => h0 (fun hf => ?_)⟩⟩
          exact q2 (nI_le (hf k (by omega) hpos).2.2 (by omega))
        · refine sp_isCoin_n hn (fun i hi e => ?_) ⟨fun _ => h0 (fun hf => hc ⟨(hf k (by omega) hpos).1, (hf k (by omega) hpos).2.1⟩), fun q => absurd rfl q⟩
          rw [nI_eq (by omega) (by omega)] at e
          subst e
          rw [an k (by omega)]
          exact fun q => hc ⟨hi, q⟩
  exact ⟨7, lp 6 0 (by omega) (fun i hi => by omega)⟩
/-- the vector behind a -/
def nx (a : Nat → Nat) (i : Nat) : Nat → Nat := st (st (st a 5 0) i (a i - 1)) (i + 1) (a 5 + 1)
theorem nx_ok {a : Nat → Nat} {i : Nat} (hi : i < 5) (h : 0 < a i) (hz : ∀ j, i < j → j < 5 → a j = 0) (hs : s6 a ≤ 4) : s6 (nx a i) = s6 a ∧ mu (nx a i) < mu a ∧ ∀ b, s6 b = s6 a → mu (nx a i) < mu b → mu a ≤ mu b := by
  match i, hi with
  | 0, _ =>
    have d0 : nx a 0 0 = a 0 - 1 := rfl
    have d1 : nx a 0 1 = a 5 + 1 := rfl
    have d2 : nx a 0 2 = a 2 := rfl
    have d3 : nx a 0 3 = a 3 := rfl
    have d4 : nx a 0 4 = a 4 := rfl
    have d5 : nx a 0 5 = 0 := rfl
    have z1 : a 1 = 0 := hz 1 (by omega) (by omega)
    have z2 : a 2 = 0 := hz 2 (by omega) (by omega)
    have z3 : a 3 = 0 := hz 3 (by omega) (by omega)
    have z4 : a 4 = 0 := hz 4 (by omega) (by omega)
    unfold s6 mu at *
    rw [d0, d1, d2, d3, d4, d5]
    refine ⟨by omega, by omega, fun b hb h2 => ?_⟩
    rcases Nat.lt_or_ge (b 0 * 3125 + b 1 * 625 + b 2 * 125 + b 3 * 25 + b 4 * 5 + b 5) (a 0 * 3125 + a 1 * 625 + a 2 * 125 + a 3 * 25 + a 4 * 5 + a 5) with g | g
    · exfalso
      have e0 : b 0 = a 0 ∨ b 0 + 1 = a 0 := by omega
      rcases e0 with e0 | e0
      · omega
      · omega
    · exact g
  | 1, _ =>
    have d0 : nx a 1 0 = a 0 := rfl
    have d1 : nx a 1 1 = a 1 - 1 := rfl
    have d2 : nx a 1 2 = a 5 + 1 := rfl
    have d3 : nx a 1 3 = a 3 := rfl
    have d4 : nx a 1 4 = a 4 := rfl
    have d5 : nx a 1 5 = 0 := rfl
    have z2 : a 2 = 0 := hz 2 (by omega) (by omega)
    have z3 : a 3 = 0 := hz 3 (by omega) (by omega)
    have z4 : a 4 = 0 := hz 4 (by omega) (by omega)
    unfold s6 mu at *
    rw [d0, d1, d2, d3, d4, d5]
    refine ⟨by omega, by omega, fun b hb h2 => ?_⟩
    rcases Nat.lt_or_ge (b 0 * 3125 + b 1 * 625 + b 2 * 125 + b 3 * 25 + b 4 * 5 + b 5) (a 0 * 3125 + a 1 * 625 + a 2 * 125 + a 3 * 25 + a 4 * 5 + a 5) with g | g
    · exfalso
      have e0 : b 0 = a 0 := by omega
      have e1 : b 1 = a 1 ∨ b 1 + 1 = a 1 := by omega
      rcases e1 with e1 | e1
      · omega
      · omega
    · exact g
  | 2, _ =>
    have d0 : nx a 2 0 = a 0 := rfl
    have d1 : nx a 2 1 = a 1 := rfl
    have d2 : nx a 2 2 = a 2 - 1 := rfl
    have d3 : nx a 2 3 = a 5 + 1 := rfl
    have d4 : nx a 2 4 = a 4 := rfl
    have d5 : nx a 2 5 = 0 := rfl
    have z3 : a 3 = 0 := hz 3 (by omega) (by omega)
    have z4 : a 4 = 0 := hz 4 (by omega) (by omega)
    unfold s6 mu at *
    rw [d0, d1, d2, d3, d4, d5]
    refine ⟨by omega, by omega, fun b hb h2 => ?_⟩
    rcases Nat.lt_or_ge (b 0 * 3125 + b 1 * 625 + b 2 * 125 + b 3 * 25 + b 4 * 5 + b 5) (a 0 * 3125 + a 1 * 625 + a 2 * 125 + a 3 * 25 + a 4 * 5 + a 5) with g | g
    · exfalso
      have e0 : b 0 = a 0 := by omega
      have e1 : b 1 = a 1 := by omega
      have e2 : b 2 = a 2 ∨ b 2 + 1 = a 2 := by omega
      rcases e2 with e2 | e2
      · omega
      · omega
    · exact g
  | 3, _ =>
    have d0 : nx a 3 0 = a 0 := rfl
    have d1 : nx a 3 1 = a 1 := rfl
    have d2 : nx a 3 2 = a 2 := rfl
    have d3 : nx a 3 3 = a 3 - 1 := rfl
    have d4 : nx a 3 4 = a 5 + 1 := rfl
    have d5 : nx a 3 5 = 0 := rfl
    have z4 : a 4 = 0 := hz 4 (by omega) (by omega)
    unfold s6 mu at *
    rw [d0, d1, d2, d3, d4, d5]
    refine ⟨by omega, by omega, fun b hb h2 => ?_⟩
    rcases Nat.lt_or_ge (b 0 * 3125 + b 1 * 625 + b 2 * 125 + b 3 * 25 + b 4 * 5 + b 5) (a 0 * 3125 + a 1 * 625 + a 2 * 125 + a 3 * 25 + a 4 * 5 + a 5) with g | g
    · exfalso
      have e0 : b 0 = a 0 := by omega
      have e1 : b 1 = a 1 := by omega
      have e2 : b 2 = a 2 := by omega
      have e3 : b 3 = a 3 ∨ b 3 + 1 = a 3 := by omega
      rcases e3 with e3 | e3
      · omega
      · omega
    · exact g
  | 4, _ =>
    have d0 : nx a 4 0 = a 0 := rfl
    have d1 : nx a 4 1 = a 1 := rfl
    have d2 : nx a 4 2 = a 2 := rfl
    have d3 : nx a 4 3 = a 3 := rfl
    have d4 : nx a 4 4 = a 4 - 1 := rfl
    have d5 : nx a 4 5 = a 5 + 1 := rfl
    unfold s6 mu at *
    rw [d0, d1, d2, d3, d4, d5]
    refine ⟨by omega, by omega, fun b hb h2 => ?_⟩
    rcases Nat.lt_or_ge (b 0 * 3125 + b 1 * 625 + b 2 * 125 + b 3 * 25 + b 4 * 5 + b 5) (a 0 * 3125 + a 1 * 625 + a 2 * 125 + a 3 * 25 + a 4 * 5 + a 5) with g | g
    · exfalso
      have e0 : b 0 = a 0 := by omega
      have e1 : b 1 = a 1 := by omega
      have e2 : b 2 = a 2 := by omega
      have e3 : b 3 = a 3 := by omega
      have e4 : b 4 = a 4 ∨ b 4 + 1 = a 4 := by omega
      rcases e4 with e4 | e4
      · omega
      · omega
    · exact g
theorem mu_min {a b : Nat → Nat} (hz : ∀ j, j < 5 → a j = 0) (h : s6 b = s6 a) : mu a ≤ mu b := by
  have z0 := hz 0 (by omega); have z1 := hz 1 (by omega); have z2 := hz 2 (by omega); have z3 := hz 3 (by omega); have z4 := hz 4 (by omega)
  unfold s6 at h
  unfold mu
  omega
theorem sp_goesOn {a : Nat → Nat} {maj : Nat → Int32} {K : Int32 → (Nat → Int32) → Prop} (hs : s6 a ≤ 4) (ha : ∀ i, i < 6 → maj i = nI (a i))
    (h1 : ∀ a' maj', s6 a' = s6 a → mu a' < mu a → (∀ b, s6 b = s6 a → mu a' < mu b → mu a ≤ mu b) → (∀ i, i < 6 → maj' i = nI (a' i)) → K 1 maj')
    (h0 : (∀ b, s6 b = s6 a → mu a ≤ mu b) → K 0 maj) : wp_X6_goesOn maj K := by
  have hab : ∀ i, i < 6 → a i ≤ 4 := by
    unfold s6 at hs
    exact six (by omega) (by omega) (by omega) (by omega) (by omega) (by omega)
  unfold wp_X6_goesOn
  refine ⟨vp_in_l (by decide), 6, ?_⟩
  have lp : ∀ (X : Int32 → Prop) (x : Int32), (∀ i, i < 5 → 0 < a i → (∀ j, i < j → j < 5 → a j = 0) → X (nI i)) → ((∀ j, j < 5 → a j = 0) → X (nI 0 - 1)) → ∀ m, m ≤ 5 → (∀ j, m ≤ j → j < 5 → a j = 0) → wp_X6_goesOn_9 x maj K X (m + 1) (nI m - 1) := by
    intro X x hX1 hX0 m
    induction m with
    | zero =>
      intro hm hz
      unfold wp_X6_goesOn_9
      exact ⟨fun _ => hX0 (fun j hj => hz j (by omega) hj), fun q => absurd nI_n1 q⟩
    | succ m ih =>
      intro hm hz
      unfold wp_X6_goesOn_9
      rw [nI_p1, nI_clamp (show m < 2 ^ 31 by omega), ha m (by omega)]
      have := hab m (by omega)
      refine ⟨fun q => absurd q (nI_pos (by omega)), fun _ => ⟨vp_in_nI (by omega) (by omega), fun q => hX1 m (by omega) ?_ (fun j h1 h2 => hz j (by omega) h2), fun q => ih (by omega) (fun j h1 h2 => ?_)⟩⟩
      · rcases Nat.eq_zero_or_pos (a m) with e | e
        · exact absurd ((nI_z (by omega)).mpr e) q
        · exact e
      · by_cases e : j = m
        · subst e; exact (nI_z (by omega)).mp q
        · exact hz j (by omega) h2
  refine lp _ _ (fun i hi hpos hz => ⟨fun _ => ?_, fun q => absurd (nI_le (a := 0) (Nat.zero_le _) (by omega)) q⟩) (fun hz => ⟨fun q => absurd q (by decide), fun _ => h0 (fun b hb => mu_min hz hb)⟩) 5 (by omega) (fun j h1 h2 => by omega)
  rw [nI_1, nI_clamp (show i < 2 ^ 31 by omega), nI_clamp (show i + 1 < 2 ^ 31 by omega), show (5 : Int32).toNatClampNeg = 5 from rfl]
  have hin : vp_in (nI i) 6 := vp_in_nI (by omega) (by omega)
  refine ⟨vp_in_l (by decide), hin, hin, vp_in_nI (by omega) (by omega), ?_⟩
  obtain ⟨n1, n2, n3⟩ := nx_ok hi hpos hz hs
  refine h1 (nx a i) _ n1 n2 n3 (fun j hj => ?_)
  unfold nx
  by_cases e1 : j = i + 1
  · subst e1; rw [pk_us, st_s, ha 5 (by omega), nI_1]
  · rw [pk_un e1, st_n e1]
    by_cases e2 : j = i
    · subst e2
      rw [pk_us, st_s, pk_un (by omega), ha j hj, show a j = a j - 1 + 1 by omega, nI_p1]
      rfl
    · rw [pk_un e2, st_n e2]
      by_cases e3 : j = 5
      · subst e3; rw [pk_us, st_s]; rfl
      · rw [pk_un e3, st_n e3]; exact ha j hj
theorem sp_iob44 {T a : Nat → Nat} {maj : Nat → Int32} {K : Int32 → (Nat → Int32) → (Nat → Int32) → (Nat → Int32) → (Nat → Int32) → Prop} {X : (Nat → Int32) → Prop} (ha : ∀ i, i < 6 → maj i = nI (a i)) {mtu : Nat → Int32} (hm : ∀ i, i < 6 → mtu i = nI (T i)) (hX : ∀ mtu2 : Nat → Int32, (∀ i, i < 6 → mtu2 i = nI (T i + a i)) → X mtu2) : ∃ f, wp_X6_isOutBy_44 maj K X f 0 mtu := by
  have lp : ∀ (m k : Nat) (f : Nat → Int32), k + m = 6 → (∀ i, i < k → f i = nI (T i + a i)) → (∀ i, k ≤ i → i < 6 → f i = nI (T i)) → wp_X6_isOutBy_44 maj K X (m + 1) (nI k) f := by
    intro m
    induction m with
    | zero =>
      intro k f hk h1 h2
      unfold wp_X6_isOutBy_44
      exact ⟨fun _ => hX f (fun i hi => h1 i (by omega)), fun q => absurd (nI_le (a := 6) (by omega) (by omega)) q⟩
    | succ m ih =>
      intro k f hk h1 h2
      unfold wp_X6_isOutBy_44
      have hin : vp_in (nI k) 6 := vp_in_nI (by omega) (by omega)
      refine ⟨fun q => absurd q (nI_ge (b := 6) (by omega) (by omega)), fun _ => ⟨hin, hin, hin, ?_⟩⟩
      rw [nI_clamp (by omega), nI_1, h2 k (Nat.le_refl _) (by omega), ha k (by omega), nI_add]
      refine ih (k + 1) _ (by omega) (fun i hi => ?_) (fun i hi hi6 => ?_)
      · by_cases e : i = k
        · subst e; rw [pk_us]
        · rw [pk_un e]; exact h1 i (by omega)
      · rw [pk_un (by omega)]; exact h2 i (by omega) hi6
  exact ⟨7, lp 6 0 mtu (by omega) (fun i hi => by omega) (fun i _ hi => hm i hi)⟩
theorem sp_iob83 {T a : Nat → Nat} {x : Int32} {maj : Nat → Int32} {K : Int32 → (Nat → Int32) → (Nat → Int32) → (Nat → Int32) → (Nat → Int32) → Prop} {X : (Nat → Int32) → Prop} (ha : ∀ i, i < 6 → maj i = nI (a i)) {mtu : Nat → Int32} (hm : ∀ i, i < 6 → mtu i = nI (T i + a i)) (hX : ∀ mtu2 : Nat → Int32, (∀ i, i < 6 → mtu2 i = nI (T i)) → X mtu2) : ∃ f, wp_X6_isOutBy_83 x maj K X f 0 mtu := by
  have lp : ∀ (m k : Nat) (f : Nat → Int32), k + m = 6 → (∀ i, i < k → f i = nI (T i)) → (∀ i, k ≤ i → i < 6 → f i = nI (T i + a i)) → wp_X6_isOutBy_83 x maj K X (m + 1) (nI k) f := by
    intro m
    induction m with
    | zero =>
      intro k f hk h1 h2
      unfold wp_X6_isOutBy_83
      exact ⟨fun _ => hX f (fun i hi => h1 i (by omega)), fun q => absurd (nI_le (a := 6) (by omega) (by omega)) q⟩
    | succ m ih =>
      intro k f hk h1 h2
      unfold wp_X6_isOutBy_83
      have hin : vp_in (nI k) 6 := vp_in_nI (by omega) (by omega)
      refine ⟨fun q => absurd q (nI_ge (b := 6) (by omega) (by omega)), fun _ => ⟨hin, hin, hin, ?_⟩⟩
      rw [nI_clamp (by omega), nI_1, h2 k (Nat.le_refl _) (by omega), ha k (by omega), pk_sub (by omega), Nat.add_sub_cancel]
      refine ih (k + 1) _ (by omega) (fun i hi => ?_) (fun i hi hi6 => ?_)
      · by_cases e : i = k
        · subst e; rw [pk_us]
        · rw [pk_un e]; exact h1 i (by omega)
      · rw [pk_un (by omega)]; exact h2 i (by omega) hi6
  exact ⟨7, lp 6 0 mtu (by omega) (fun i hi => by omega) (fun i _ hi => hm i hi)⟩
theorem sp_iob31 {n t : Nat} {V R T P : Nat → Nat} {kn ks mva mno mro mst mpr : Nat → Int32} {K : Int32 → (Nat → Int32) → (Nat → Int32) → (Nat → Int32) → (Nat → Int32) → Prop} {X : (Nat → Int32) → (Nat → Int32) → (Nat → Int32) → (Nat → Int32) → Prop} (hn : n ≤ 6) (hv : ∀ i, i < n → mva i = nI (V i) ∧ 1 ≤ V i ∧ V i ≤ 200) (an : Eq6 mno kn) (as : Eq6 mst ks) (hr : ∀ i, i < 6 → mro i = nI (R i) ∧ R i ≤ 20 ∧ T i ≤ R i) (hp : PRI P mpr) (ht : t ≤ 4)
    (h1 : ∀ a mtu mca mfr maj, s6 a = t → SolR n V R T P kn ks a → (∀ b, s6 b = t → SolR n V R T P kn ks b → mu b ≤ mu a) → (∀ i, i < 6 → mtu i = nI (T i)) → (∀ i, i < 6 → maj i = nI (a i)) → K 1 mtu mca mfr maj)
    (h0 : (∀ b, s6 b = t → ¬ SolR n V R T P kn ks b) → ∀ mtu mca mfr maj, (∀ i, i < 6 → mtu i = nI (T i)) → X mtu mca mfr maj) :
    ∀ (q : Nat) (a : Nat → Nat) (mtu mca mfr maj : Nat → Int32), mu a < q → s6 a = t → (∀ i, i < 6 → mtu i = nI (T i)) → (∀ i, i < 6 → maj i = nI (a i)) → (∀ b, s6 b = t → mu a < mu b → ¬ SolR n V R T P kn ks b) → wp_X6_isOutBy_31 (nI n) mva mno mro mst mpr K X (q + 1) 1 mtu mca mfr maj := by
  intro q
  induction q with
  | zero => intro a mtu mca mfr maj h; omega
  | succ q ih =>
    intro a mtu mca mfr maj hq hs hm ha hno
    have hab : ∀ i, i < 6 → a i ≤ 4 := by
      unfold s6 at hs
      exact six (by omega) (by omega) (by omega) (by omega) (by omega) (by omega)
    have next : ∀ (mtu2 mca2 mfr2 : Nat → Int32), (∀ i, i < 6 → mtu2 i = nI (T i)) → ¬ SolR n V R T P kn ks a → wp_X6_goesOn maj (fun r_4 maj_4 => wp_X6_isOutBy_31 (nI n) mva mno mro mst mpr K X (q + 1) r_4 mtu2 mca2 mfr2 maj_4) := by
      intro mtu2 mca2 mfr2 hm2 hna
      have hna2 : ∀ b, s6 b = t → mu a = mu b → ¬ SolR n V R T P kn ks b := fun b hb e hS => hna (by
        have e2 := mu_inj (by omega) (by omega) e
        refine ⟨fun k hk hh => ?_, AllT_g (fun i hi _ => ?_) hS.2⟩
        · rw [e2 k hk] at hh ⊢; exact hS.1 k hk hh
        · show T i + b i = T i + a i; rw [e2 i (by omega)])
      refine sp_goesOn (by omega) ha (fun a' maj' g1 g2 g3 g4 => ih a' mtu2 mca2 mfr2 maj' (by omega) (by omega) hm2 g4 (fun b hb hlt => ?_)) (fun hmin => ?_)
      · have := g3 b (by omega) hlt
        by_cases e : mu a = mu b
        · exact hna2 b hb e
        · exact hno b hb (by omega)
      · unfold wp_X6_isOutBy_31
        refine ⟨fun _ => h0 (fun b hb => ?_) mtu2 mca2 mfr2 maj hm2, fun q => absurd rfl q⟩
        have := hmin b (by omega)
        by_cases e : mu a = mu b
        · exact hna2 b hb e
        · exact hno b hb (by omega)
    unfold wp_X6_isOutBy_31
    refine ⟨fun q => absurd q (by decide), fun _ => ?_⟩
    refine sp_canAdd (R := R) (T := T) (a := a) hn an (fun i hi => ⟨(hr i hi).1, (hr i hi).2.1, hm i hi, (hr i hi).2.2⟩) (fun i hi => ⟨ha i hi, hab i hi⟩) (fun hfit => ⟨fun q => absurd q (by decide), fun _ => ?_⟩) (fun hnf => ⟨fun _ => next mtu mca mfr hm (fun hS => hnf hS.1), fun q => absurd rfl q⟩)
    refine sp_iob44 (T := T) (a := a) ha hm (fun mtu2 hm2 => ?_)
    have hTa : ∀ i, i < n → T i + a i ≤ R i := fun i hi => by
      rcases Nat.eq_zero_or_pos (a i) with e | e
      · rw [e]; exact (hr i (by omega)).2.2
      · exact (hfit i (by omega) e).2.2
    refine sp_isLit (R := R) (T := fun i => T i + a i) ⟨rfl, hn, hv, fun i hi => ⟨hm2 i (by omega), by have := hTa i hi; have := (hr i (by omega)).2.1; show T i + a i ≤ 20; omega⟩⟩ (fun k hk => ⟨(hr k (by omega)).1, (hr k (by omega)).2.1, hTa k hk⟩) hp (fun hlit m2 f2 => ?_) (fun hall m2 f2 => ?_)
    · refine sp_iob83 (T := T) (a := a) ha hm2 (fun mtu3 hm3 => ⟨fun _ => next mtu3 m2 f2 hm3 (fun hS => hlit ((AllT_eq hn an as).mpr hS.2)), fun q => absurd q (by decide)⟩)
    · refine sp_iob83 (T := T) (a := a) ha hm2 (fun mtu3 hm3 => ⟨fun q => absurd rfl q, fun _ => h1 a mtu3 m2 f2 maj hs ⟨hfit, (AllT_eq hn an as).mp hall⟩ (fun b hb hS => ?_) hm3 ha⟩)
      rcases Nat.lt_or_ge (mu a) (mu b) with g | g
      · exact absurd hS (hno b hb g)
      · exact g
theorem sp_isOutBy {n t : Nat} {V R T P : Nat → Nat} {kn ks mva mno mro mtu mst mpr mca mfr maj : Nat → Int32} {K : Int32 → (Nat → Int32) → (Nat → Int32) → (Nat → Int32) → (Nat → Int32) → Prop} (hn : n ≤ 6) (hv : ∀ i, i < n → mva i = nI (V i) ∧ 1 ≤ V i ∧ V i ≤ 200) (an : Eq6 mno kn) (as : Eq6 mst ks) (hr : ∀ i, i < 6 → mro i = nI (R i) ∧ R i ≤ 20 ∧ T i ≤ R i) (hp : PRI P mpr) (ht : t ≤ 4) (hm : ∀ i, i < 6 → mtu i = nI (T i))
    (h1 : ∀ a mtu mca mfr maj, s6 a = t → SolR n V R T P kn ks a → (∀ b, s6 b = t → SolR n V R T P kn ks b → mu b ≤ mu a) → (∀ i, i < 6 → mtu i = nI (T i)) → (∀ i, i < 6 → maj i = nI (a i)) → K 1 mtu mca mfr maj)
    (h0 : (∀ b, s6 b = t → ¬ SolR n V R T P kn ks b) → ∀ mtu mca mfr maj, (∀ i, i < 6 → mtu i = nI (T i)) → K 0 mtu mca mfr maj) : wp_X6_isOutBy (nI t) (nI n) mva mno mro mtu mst mpr mca mfr maj K := by
  unfold wp_X6_isOutBy
  have lp : ∀ (m k : Nat) (f : Nat → Int32), k + m = 6 → (∀ i, i < k → f i = nI (if i = 0 then t else 0)) → wp_X6_isOutBy_2 (nI t) K (fun maj_1 => ∃ n2 : Nat, wp_X6_isOutBy_31 (nI n) mva mno mro mst mpr K (fun mtu_2 mca_2 mfr_2 maj_2 => K 0 mtu_2 mca_2 mfr_2 maj_2) n2 1 mtu mca mfr maj_1) (m + 1) (nI k) f := by
    intro m
    induction m with
    | zero =>
      intro k f hk h
      unfold wp_X6_isOutBy_2
      refine ⟨fun _ => ⟨mu (fun i => if i = 0 then t else 0) + 1 + 1, ?_⟩, fun q => absurd (nI_le (a := 6) (by omega) (by omega)) q⟩
      have es : s6 (fun i => if i = 0 then t else 0) = t := rfl
      refine sp_iob31 hn hv an as hr hp ht h1 h0 _ (fun i => if i = 0 then t else 0) mtu mca mfr f (by omega) es hm (fun i hi => h i (by omega)) (fun b hb hlt => ?_)
      have em : mu (fun i => if i = 0 then t else 0) = t * 3125 + 0 * 625 + 0 * 125 + 0 * 25 + 0 * 5 + 0 := rfl
      rw [em] at hlt
      unfold s6 at hb
      unfold mu at hlt
      omega
    | succ m ih =>
      intro k f hk h
      unfold wp_X6_isOutBy_2
      rw [nI_clamp (show k < 2 ^ 31 by omega), nI_1]
      have hin : vp_in (nI k) 6 := vp_in_nI (by omega) (by omega)
      refine ⟨fun q => absurd q (nI_ge (b := 6) (by omega) (by omega)), fun _ => ⟨fun q => ⟨hin, ih (k + 1) _ (by omega) (fun i hi => ?_)⟩, fun q => ⟨hin, ih (k + 1) _ (by omega) (fun i hi => ?_)⟩⟩⟩
      · by_cases e : i = k
        · subst e; rw [pk_us, if_neg (fun e => q ((nI_z (by omega)).mpr e))]; rfl
        · rw [pk_un e]; exact h i (by omega)
      · by_cases e : i = k
        · subst e; rw [pk_us, if_pos ((nI_z (by omega)).mp q)]
        · rw [pk_un e]; exact h i (by omega)
  exact ⟨7, lp 6 0 maj (by omega) (fun i hi => by omega)⟩
theorem sp_need40 {n : Nat} {V R T P : Nat → Nat} {x1 mtd : Int32} {kn ks mva mno mro mtu mst mpr mca mfr maj : Nat → Int32} {K : Int32 → Int32 → (Nat → Int32) → (Nat → Int32) → (Nat → Int32) → (Nat → Int32) → Prop} {X : (Nat → Int32) → (Nat → Int32) → (Nat → Int32) → (Nat → Int32) → Prop} (hn : n ≤ 6) (hv : ∀ i, i < n → mva i = nI (V i) ∧ 1 ≤ V i ∧ V i ≤ 200) (an : Eq6 mno kn) (as : Eq6 mst ks) (hr : ∀ i, i < 6 → mro i = nI (R i) ∧ R i ≤ 20 ∧ T i ≤ R i) (hp : PRI P mpr) (hm : ∀ i, i < 6 → mtu i = nI (T i))
    (h1 : ∀ t a mtu mca mfr maj, t ≤ 4 → s6 a = t → SolR n V R T P kn ks a → (∀ b, s6 b = t → SolR n V R T P kn ks b → mu b ≤ mu a) → (∀ b, s6 b < t → ¬ SolR n V R T P kn ks b) → (∀ i, i < 6 → mtu i = nI (T i)) → (∀ i, i < 6 → maj i = nI (a i)) → ((¬ x1 = 0 → (vp_in (x1 - 10) 6 ∧ K (maj (x1 - 10).toNatClampNeg) mtd mtu mca mfr maj)) ∧ (x1 = 0 → K (nI t) mtd mtu mca mfr maj)))
    (h0 : (∀ b, s6 b ≤ 4 → ¬ SolR n V R T P kn ks b) → ∀ mtu mca mfr maj, (∀ i, i < 6 → mtu i = nI (T i)) → X mtu mca mfr maj) : ∃ f, wp_X6_need_40 x1 mtd (nI n) mva mno mro mst mpr K X f 0 mtu mca mfr maj := by
  have lp : ∀ (m t : Nat) (mtu mca mfr maj : Nat → Int32), t + m = 5 → (∀ i, i < 6 → mtu i = nI (T i)) → (∀ b, s6 b < t → ¬ SolR n V R T P kn ks b) → wp_X6_need_40 x1 mtd (nI n) mva mno mro mst mpr K X (m + 1) (nI t) mtu mca mfr maj := by
    intro m
    induction m with
    | zero =>
      intro t mtu mca mfr maj ht hm hno
      unfold wp_X6_need_40
      exact ⟨fun _ => h0 (fun b hb => hno b (by omega)) mtu mca mfr maj hm, fun q => absurd (nI_lt (a := 4) (by omega) (by omega)) q⟩
    | succ m ih =>
      intro t mtu mca mfr maj ht hm hno
      unfold wp_X6_need_40
      rw [nI_1]
      refine ⟨fun q => absurd q (nI_nlt (a := 4) (by omega) (by omega)), fun _ => ?_⟩
      refine sp_isOutBy hn hv an as hr hp (by omega) hm (fun a mtu2 mca2 mfr2 maj2 g1 g2 g3 g4 g5 => ⟨fun q => absurd q (by decide), fun _ => h1 t a mtu2 mca2 mfr2 maj2 (by omega) g1 g2 g3 hno g4 g5⟩) (fun hnone mtu2 mca2 mfr2 maj2 g4 => ⟨fun _ => ih (t + 1) mtu2 mca2 mfr2 maj2 (by omega) g4 (fun b hb => ?_), fun q => absurd rfl q⟩)
      by_cases e : s6 b = t
      · exact hnone b e
      · exact hno b (by omega)
  exact ⟨6, lp 5 0 mtu mca mfr maj (by omega) hm (fun b hb => by omega)⟩
