/-! the reference's way: ranks and rows -/
def RKI (n : Nat) (V : Nat → Nat) (mno : Nat → Int32) (rs : Nat) (rk : Nat → Nat) : Prop := rs ≤ n ∧ (∀ i, i < rs → rk i < n ∧ mno (rk i) = 0) ∧ (∀ i j, i < j → j < rs → V (rk j) < V (rk i)) ∧ (∀ k, k < n → mno k = 0 → ∃ i, i < rs ∧ rk i = k)
theorem sp_rank32 {n k rs : Nat} {V rk : Nat → Nat} {mva : Nat → Int32} {K : Int32 → (Nat → Int32) → Prop} {X : Int32 → (Nat → Int32) → Prop} (hn : n ≤ 6) (hk : k < n) (hv : ∀ i, i < n → mva i = nI (V i) ∧ 1 ≤ V i ∧ V i ≤ 200) (hd : ∀ i j, i < n → j < n → V i = V j → i = j) (hrs : rs ≤ k) (hlt : ∀ i, i < rs → rk i < k)
    (hX : ∀ p mrk, p ≤ rs → (∀ i, i < p → mrk i = nI (rk i)) → (∀ i, p < i → i ≤ rs → mrk i = nI (rk (i - 1))) → (∀ i, p ≤ i → i < rs → V (rk i) < V k) → (p = 0 ∨ V k < V (rk (p - 1))) → X (nI p) mrk) :
    ∀ (p : Nat) (mrk : Nat → Int32), p ≤ rs → (∀ i, i < p → mrk i = nI (rk i)) → (∀ i, p < i → i ≤ rs → mrk i = nI (rk (i - 1))) → (∀ i, p ≤ i → i < rs → V (rk i) < V k) → wp_X6_rank_32 (nI k) mva K X (p + 1) (nI p) mrk := by
  intro p
  induction p with
  | zero =>
    intro mrk hp e1 e2 e3
    unfold wp_X6_rank_32
    exact ⟨fun _ => hX 0 mrk hp e1 e2 e3 (Or.inl rfl), fun q => absurd (by decide) q⟩
  | succ p ih =>
    intro mrk hp e1 e2 e3
    unfold wp_X6_rank_32
    have hrp := hlt p (by omega)
    obtain ⟨v1, v2, v3⟩ := hv (rk p) (by omega)
    obtain ⟨w1, w2, w3⟩ := hv k hk
    rw [nI_p1, nI_clamp (show p < 2 ^ 31 by omega), e1 p (by omega), nI_clamp (show rk p < 2 ^ 31 by omega), nI_clamp (show k < 2 ^ 31 by omega), nI_clamp (show p + 1 < 2 ^ 31 by omega), v1, w1]
    refine ⟨fun q => absurd ((nI_le0 (by omega)).mp q) (by omega), fun _ => ⟨vp_in_nI (by omega) (by omega), vp_in_nI (by omega) (by omega), vp_in_nI (by omega) (by omega), fun q => ?_, fun q => ⟨vp_in_nI (by omega) (by omega), vp_in_nI (by omega) (by omega), ?_⟩⟩⟩
    · have hle := (nI_leI (by omega) (by omega)).mp q
      refine hX (p + 1) mrk hp e1 e2 e3 (Or.inr ?_)
      rw [Nat.add_sub_cancel]
      rcases Nat.lt_or_ge (V k) (V (rk p)) with g | g
      · exact g
      · have := hd k (rk p) hk (by omega) (by omega)
        omega
    · have hlt2 := (nI_ltI (by omega) (by omega)).mp (nle_lt q)
      refine ih _ (by omega) (fun i hi => ?_) (fun i h1 h2 => ?_) (fun i h1 h2 => ?_)
      · rw [pk_un (by omega)]; exact e1 i (by omega)
      · by_cases e : i = p + 1
        · subst e; rw [pk_us]; rfl
        · rw [pk_un e]; exact e2 i (by omega) h2
      · by_cases e : i = p
        · subst e; exact hlt2
        · exact e3 i (by omega) h2
theorem sp_rank {n : Nat} {V : Nat → Nat} {mva mno mrk : Nat → Int32} {mrs : Int32} {K : Int32 → (Nat → Int32) → Prop} (hn : n ≤ 6) (hv : ∀ i, i < n → mva i = nI (V i) ∧ 1 ≤ V i ∧ V i ≤ 200) (hd : ∀ i j, i < n → j < n → V i = V j → i = j)
    (hK : ∀ rs rk mrk2, RKI n V mno rs rk → (∀ i, i < rs → mrk2 i = nI (rk i)) → K (nI rs) mrk2) : wp_X6_rank (nI n) mva mno mrs mrk K := by
  unfold wp_X6_rank
  have lp : ∀ (m k rs : Nat) (rk : Nat → Nat) (mrk : Nat → Int32), k + m = n → rs ≤ k → (∀ i, i < rs → rk i < k ∧ mno (rk i) = 0) → (∀ i j, i < j → j < rs → V (rk j) < V (rk i)) → (∀ q, q < k → mno q = 0 → ∃ i, i < rs ∧ rk i = q) → (∀ i, i < rs → mrk i = nI (rk i)) → wp_X6_rank_7 (nI n) mva mno K (fun a b => K a b) (m + 1) (nI k) (nI rs) mrk := by
    intro m
    induction m with
    | zero =>
      intro k rs rk mrk hk h1 h2 h3 h4 h5
      have e : k = n := by omega
      subst e
      unfold wp_X6_rank_7
      exact ⟨fun _ => hK rs rk mrk ⟨h1, h2, h3, h4⟩ h5, fun q => absurd (nI_le (by omega) (by omega)) q⟩
    | succ m ih =>
      intro k rs rk mrk hk h1 h2 h3 h4 h5
      unfold wp_X6_rank_7
      rw [nI_clamp (show k < 2 ^ 31 by omega), nI_1]
      refine ⟨fun q => absurd q (nI_ge (by omega) (by omega)), fun _ => ⟨vp_in_nI (by omega) (by omega), fun q => ⟨rs + 1, ?_⟩, fun q => ?_⟩⟩
      · refine sp_rank32 (rk := rk) (V := V) hn (by omega) hv hd h1 (fun i hi => (h2 i hi).1) (fun p mrk2 hp e1 e2 e3 e4 => ?_) rs mrk (Nat.le_refl _) h5 (fun i _ _ => by omega) (fun i _ _ => by omega)
        rw [nI_clamp (show p < 2 ^ 31 by omega), show (nI rs + (1 : Int32)) = nI (rs + 1) from nI_1 _]
        refine ⟨vp_in_nI (by omega) (by omega), ?_⟩
        obtain ⟨rk2, g1, g2, g3⟩ : ∃ rk2 : Nat → Nat, (∀ i, i < p → rk2 i = rk i) ∧ rk2 p = k ∧ (∀ i, p < i → rk2 i = rk (i - 1)) :=
          ⟨fun i => if i < p then rk i else if i = p then k else rk (i - 1), fun i hi => if_pos hi, by simp, fun i hi => by
            show (if i < p then rk i else if i = p then k else rk (i - 1)) = rk (i - 1)
            rw [if_neg (by omega), if_neg (by omega)]⟩
        refine ih (k + 1) (rs + 1) rk2 _ (by omega) (by omega) (fun i hi => ?_) (fun i j hij hj => ?_) (fun x hx hc => ?_) (fun i hi => ?_)
        · rcases Nat.lt_trichotomy i p with l | l | l
          · rw [g1 i l]; have := h2 i (by omega); exact ⟨by omega, this.2⟩
          · subst l; rw [g2]; exact ⟨by omega, q⟩
          · rw [g3 i l]; have := h2 (i - 1) (by omega); exact ⟨by omega, this.2⟩
        · rcases Nat.lt_trichotomy j p with l | l | l
          · rw [g1 j l, g1 i (by omega)]; exact h3 i j hij (by omega)
          · subst l
            rw [g2, g1 i hij]
            rcases e4 with e4 | e4
            · omega
            · by_cases e : i = j - 1
              · rw [e]; exact e4
              · have := h3 i (j - 1) (by omega) (by omega); omega
          · rw [g3 j l]
            rcases Nat.lt_trichotomy i p with l2 | l2 | l2
            · rw [g1 i l2]; exact h3 i (j - 1) (by omega) (by omega)
            · subst l2; rw [g2]; exact e3 (j - 1) (by omega) (by omega)
            · rw [g3 i l2]; exact h3 (i - 1) (j - 1) (by omega) (by omega)
        · by_cases e : x = k
          · exact ⟨p, by omega, by rw [e]; exact g2⟩
          · obtain ⟨i, i1, i2⟩ := h4 x (by omega) hc
            by_cases l : i < p
            · exact ⟨i, by omega, by rw [g1 i l]; exact i2⟩
            · exact ⟨i + 1, by omega, by rw [g3 (i + 1) (by omega), Nat.add_sub_cancel]; exact i2⟩
        · rcases Nat.lt_trichotomy i p with l | l | l
          · rw [pk_un (by omega), g1 i l]; exact e1 i l
          · subst l; rw [pk_us, g2]
          · rw [pk_un (by omega), g3 i l]; exact e2 i l (by omega)
      · refine ih (k + 1) rs rk mrk (by omega) (by omega) (fun i hi => ⟨by have := (h2 i hi).1; omega, (h2 i hi).2⟩) h3 (fun x hx hc => ?_) h5
        by_cases e : x = k
        · subst e; exact absurd hc q
        · exact h4 x (by omega) hc
  exact ⟨n + 1, lp n 0 0 (fun _ => 0) mrk (by omega) (Nat.le_refl _) (fun i hi => by omega) (fun i j _ hj => by omega) (fun q hq => by omega) (fun i hi => by omega)⟩
theorem sp_mayUse {k r : Nat} {T : Nat → Nat} {mno mtu mst : Nat → Int32} {K : Int32 → Prop} (hk : k < 6) (hc : mno k = 0) (ht : mtu k = nI (T k)) (hT : T k ≤ 20) (hr : r ≤ 20) (h : K (nI (spN mno mst T r k))) : wp_X6_mayUse (nI k) (nI r) mtu mst K := by
  unfold wp_X6_mayUse
  rw [nI_clamp (by omega), ht]
  have hin : vp_in (nI k) 6 := vp_in_nI (by omega) (by omega)
  unfold spN gvs at h
  rw [hc] at h
  refine ⟨hin, fun q => ?_, fun q => ⟨hin, fun q2 => ⟨hin, ?_⟩, fun q2 => ?_⟩⟩
  · rw [if_neg (by simp [q])] at h; exact h
  · rw [if_pos (by simp [q])] at h
    rw [pk_sub ((nI_leI (by omega) (by omega)).mp q2)]; exact h
  · rw [if_pos (by simp [q])] at h
    have := (nI_ltI (by omega) (by omega)).mp (nle_lt q2)
    rw [show T k - r = 0 by omega] at h
    exact h
theorem sp_w122 {n r i k s : Nat} {V T sp : Nat → Nat} {x1 : Int32} {mva mno mtu mst mfe : Nat → Int32} {K : Int32 → Int32 → (Nat → Int32) → (Nat → Int32) → (Nat → Int32) → Prop} {X : Int32 → Prop} (hKN : KN n V T (nI n) mva mtu) (hr : r ≤ 20) (hk : k < n) (hc : mno k = 0) (hi : i ≤ 5) (hs : s ≤ 999) (h0 : sp k = 0) (hsp : ∀ i, i < n → sp i ≤ 20) (hrow : RowOK 1000000 n V sp s (fun s => mfe (1000 * (i + 1) + s)))
    (hX : ∀ x, ((∃ m, IsMn n V (st sp k (spN mno mst T r k)) s m ∧ x = nI m) ∨ ((∀ m, ¬ Cnt n V (st sp k (spN mno mst T r k)) s m) ∧ x = nI 1000000)) → X x) :
    ∃ f, wp_X6_isWay_122 x1 (nI r) (nI i) (nI k) (nI s) mva mtu mst mfe K X f 1000000 0 := by
  obtain ⟨-, hn, hv, ht⟩ := hKN
  obtain ⟨v1, v2, v3⟩ := hv k hk
  obtain ⟨t1, t2⟩ := ht k hk
  have hb : spN mno mst T r k ≤ 20 := Nat.le_trans spN_le t2
  have bd : ∀ {s m : Nat}, Cnt n V sp s m → m ≤ 120 := fun hc => by
    have := Cnt_le hc hsp
    have : n * 20 ≤ 6 * 20 := Nat.mul_le_mul_right 20 hn
    omega
  refine ⟨spN mno mst T r k + 2, ?_⟩
  have lp : ∀ (f t : Nat) (best : Int32), spN mno mst T r k + 1 < t + f → t ≤ spN mno mst T r k + 1 → ((best = nI 1000000 ∧ ∀ u, u < t → u * V k ≤ s → ∀ m, ¬ Cnt n V sp (s - u * V k) m) ∨ (∃ u M, u < t ∧ u ≤ spN mno mst T r k ∧ u * V k ≤ s ∧ u ≤ M ∧ M ≤ 140 ∧ Cnt n V sp (s - u * V k) (M - u) ∧ best = nI M ∧ (∀ u2, u2 < t → u2 * V k ≤ s → ∀ m2, Cnt n V sp (s - u2 * V k) m2 → M ≤ u2 + m2))) → wp_X6_isWay_122 x1 (nI r) (nI i) (nI k) (nI s) mva mtu mst mfe K X f best (nI t) := by
    intro f
    induction f with
    | zero => intro t best h1 h2; omega
    | succ f ih =>
      intro t best h1 h2 hinv
      have fin : (∀ u, u ≤ spN mno mst T r k → u * V k ≤ s → u < t) → X best := by
        intro hall
        rcases hinv with ⟨e, hno⟩ | ⟨u, M, c1, c2, c3, c4, c5, c6, c7, c8⟩
        · refine hX _ (Or.inr ⟨fun m hm => ?_, e⟩)
          obtain ⟨u, d1, d2, d3, d4⟩ := (Cnt_bump hk h0).mp hm
          exact absurd d4 (hno u (hall u d1 d2) d2 _)
        · refine hX _ (Or.inl ⟨M, ⟨(Cnt_bump hk h0).mpr ⟨u, c2, c3, c4, c6⟩, fun m2 hm2 => ?_⟩, c7⟩)
          obtain ⟨u2, d1, d2, d3, d4⟩ := (Cnt_bump hk h0).mp hm2
          have := c8 u2 (hall u2 d1 d2) d2 _ d4
          omega
      unfold wp_X6_isWay_122
      refine sp_mayUse (by omega) hc t1 t2 hr ?_
      rw [nI_clamp (show k < 2 ^ 31 by omega), v1, pk_mul]
      have hb2 : t * V k ≤ 21 * 200 := Nat.mul_le_mul (by omega) v3
      refine ⟨fun c => fin (fun u hu _ => ?_), fun c => ⟨vp_in_nI (by omega) (by omega), fun c2 => fin (fun u hu hus => ?_), fun c2 => ?_⟩⟩
      · have := (nI_ltI (by omega) (by omega)).mp c; omega
      · have hlt : s < t * V k := (nI_ltI (by omega) (by omega)).mp c2
        rcases Nat.lt_or_ge u t with g | g
        · exact g
        · have := Nat.mul_le_mul_right (V k) g; omega
      · have htb : t ≤ spN mno mst T r k := (nI_leI (by omega) (by omega)).mp (nlt_le c)
        have hts : t * V k ≤ s := (nI_leI (by omega) (by omega)).mp (nlt_le c2)
        have eI : ((1000 : Int32) * (nI i + (1 : Int32)) + nI s) - nI (t * V k) = nI (1000 * (i + 1) + (s - t * V k)) := by
          rw [nI_1, show (1000 : Int32) = nI 1000 from rfl, pk_mul, nI_add, pk_sub (by omega)]
          congr 1; omega
        rw [eI, nI_clamp (show 1000 * (i + 1) + (s - t * V k) < 2 ^ 31 by omega), nI_1]
        refine ⟨vp_in_nI (by omega) (by omega), vp_in_nI (by omega) (by omega), ?_⟩
        rcases hrow (s - t * V k) (by omega) with ⟨mt, g1, g2⟩ | ⟨g1, g2⟩
        · have gb := bd g1.1
          have g2' : mfe (1000 * (i + 1) + (s - t * V k)) = nI mt := g2
          rw [g2', nI_add]
          refine ⟨fun c3 => ih (t + 1) _ (by omega) (by omega) ?_, fun c3 => ih (t + 1) _ (by omega) (by omega) ?_⟩
          · rcases hinv with ⟨e1, -⟩ | ⟨u, M, d1, d2, d3, d4, d5, d6, d7, d8⟩
            · rw [e1] at c3
              exact absurd c3 (nI_ge (by omega) (by omega))
            · rw [d7] at c3
              have hle : M ≤ t + mt := (nI_leI (by omega) (by omega)).mp c3
              refine Or.inr ⟨u, M, by omega, d2, d3, d4, d5, d6, d7, fun u2 x1 x2 m2 x3 => ?_⟩
              by_cases e : u2 = t
              · subst e; have := g1.2 m2 x3; omega
              · exact d8 u2 (by omega) x2 m2 x3
          · refine Or.inr ⟨t, t + mt, by omega, htb, hts, by omega, by omega, by rw [Nat.add_sub_cancel_left]; exact g1.1, rfl, fun u2 x1 x2 m2 x3 => ?_⟩
            by_cases e : u2 = t
            · subst e; have := g1.2 m2 x3; omega
            · rcases hinv with ⟨-, e3⟩ | ⟨u, M, d1, d2, d3, d4, d5, d6, d7, d8⟩
              · exact absurd x3 (e3 u2 (by omega) x2 m2)
              · rw [d7] at c3
                have := (nI_ltI (by omega) (by omega)).mp (nle_lt c3)
                have := d8 u2 (by omega) x2 m2 x3
                omega
        · have g2' : mfe (1000 * (i + 1) + (s - t * V k)) = nI 1000000 := g2
          rw [g2', nI_add]
          have hle : best ≤ nI (t + 1000000) := by
            rcases hinv with ⟨e1, -⟩ | ⟨u, M, d1, d2, d3, d4, d5, d6, d7, d8⟩
            · rw [e1]; exact nI_le (by omega) (by omega)
            · rw [d7]; exact nI_le (by omega) (by omega)
          refine ⟨fun _ => ih (t + 1) _ (by omega) (by omega) ?_, fun c3 => absurd hle c3⟩
          rcases hinv with ⟨e1, e2⟩ | ⟨u, M, d1, d2, d3, d4, d5, d6, d7, d8⟩
          · refine Or.inl ⟨e1, fun u hu hus m hm => ?_⟩
            by_cases e : u = t
            · subst e; exact g1 m hm
            · exact e2 u (by omega) hus m hm
          · refine Or.inr ⟨u, M, by omega, d2, d3, d4, d5, d6, d7, fun u2 x1 x2 m2 x3 => ?_⟩
            by_cases e : u2 = t
            · subst e; exact absurd x3 (g1 m2)
            · exact d8 u2 (by omega) x2 m2 x3
  exact lp _ 0 1000000 (by omega) (by omega) (Or.inl ⟨rfl, fun u hu => by omega⟩)
theorem sp_w109 {n r i k sum : Nat} {V T sp : Nat → Nat} {mva mno mtu mst mfe : Nat → Int32} {K : Int32 → Int32 → (Nat → Int32) → (Nat → Int32) → (Nat → Int32) → Prop} {X : (Nat → Int32) → Prop} (hKN : KN n V T (nI n) mva mtu) (hr : r ≤ 20) (hk : k < n) (hc : mno k = 0) (hi : i ≤ 5) (hs : sum ≤ 999) (h0 : sp k = 0) (hsp : ∀ i, i < n → sp i ≤ 20) (hrow : RowOK 1000000 n V sp sum (fun s => mfe (1000 * (i + 1) + s)))
    (hX : ∀ mfe2, (∀ x, 1000 * (i + 1) ≤ x → mfe2 x = mfe x) → RowOK 1000000 n V (st sp k (spN mno mst T r k)) sum (fun s => mfe2 (1000 * i + s)) → X mfe2) :
    ∃ f, wp_X6_isWay_109 (nI sum) (nI r) (nI i) (nI k) mva mtu mst K X f 0 mfe := by
  refine ⟨sum + 1 + 1, ?_⟩
  have lp : ∀ (m t : Nat) (mfe2 : Nat → Int32), t + m = sum + 1 → (∀ x, 1000 * (i + 1) ≤ x → mfe2 x = mfe x) → (∀ s, s < t → (∃ m, IsMn n V (st sp k (spN mno mst T r k)) s m ∧ mfe2 (1000 * i + s) = nI m) ∨ ((∀ m, ¬ Cnt n V (st sp k (spN mno mst T r k)) s m) ∧ mfe2 (1000 * i + s) = nI 1000000)) → wp_X6_isWay_109 (nI sum) (nI r) (nI i) (nI k) mva mtu mst K X (m + 1) (nI t) mfe2 := by
    intro m
    induction m with
    | zero =>
      intro t mfe2 ht h1 h2
      unfold wp_X6_isWay_109
      exact ⟨fun _ => hX mfe2 h1 (fun s hs => h2 s (by omega)), fun q => absurd (nI_lt (by omega) (by omega)) q⟩
    | succ m ih =>
      intro t mfe2 ht h1 h2
      unfold wp_X6_isWay_109
      refine ⟨fun q => absurd q (nI_nlt (by omega) (by omega)), fun _ => ?_⟩
      refine sp_w122 (mno := mno) hKN hr hk hc hi (by omega) h0 hsp (fun s hs => ?_) (fun x hx => ?_)
      · show (∃ m, _ ∧ mfe2 (1000 * (i + 1) + s) = nI m) ∨ (_ ∧ mfe2 (1000 * (i + 1) + s) = _)
        rw [h1 (1000 * (i + 1) + s) (by omega)]
        exact hrow s (by omega)
      · rw [show (1000 : Int32) = nI 1000 from rfl, pk_mul, nI_add, nI_clamp (by omega), nI_1]
        refine ⟨vp_in_nI (by omega) (by omega), ih (t + 1) _ (by omega) (fun x hx => by rw [pk_un (by omega)]; exact h1 x hx) (fun s hs => ?_)⟩
        by_cases e : s = t
        · subst e; rw [pk_us]; exact hx
        · rw [pk_un (by omega)]; exact h2 s (by omega)
  exact lp (sum + 1) 0 mfe (by omega) (fun _ _ => rfl) (fun s hs => by omega)
