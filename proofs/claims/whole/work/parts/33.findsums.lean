/-! pure: the reference's sums -/
def CA (mca : Nat → Int32) (S : Nat → Prop) : Prop := ∀ s, s < 1000 → (mca s = 0 ∨ mca s = 1) ∧ (mca s = 1 ↔ S s)
theorem CA.eq0 {mca : Nat → Int32} {S : Nat → Prop} (h : CA mca S) {s : Nat} (hs : s < 1000) : mca s = 0 ↔ ¬ S s := by
  obtain ⟨h1, h2⟩ := h s hs
  rw [← h2]
  rcases h1 with e | e
  · rw [e]; decide
  · rw [e]; decide
theorem CA.ne0 {mca : Nat → Int32} {S : Nat → Prop} (h : CA mca S) {s : Nat} (hs : s < 1000) : ¬ mca s = 0 ↔ S s := by
  rw [h.eq0 hs]
  exact ⟨fun q => Classical.byContradiction q, fun q r => r q⟩
theorem sp_fs2 {K : (Nat → Int32) → (Nat → Int32) → Prop} {X : (Nat → Int32) → Prop} (hX : ∀ m2 : Nat → Int32, (∀ s, s < 1000 → m2 s = if s = 0 then 1 else 0) → X m2) :
    ∀ (m k : Nat) (m2 : Nat → Int32), k + m = 1000 → (∀ s, s < k → m2 s = if s = 0 then 1 else 0) → wp_X6_findSums_2 K X (m + 1) (nI k) m2 := by
  intro m
  induction m with
  | zero =>
    intro k m2 hk h
    unfold wp_X6_findSums_2
    refine ⟨fun _ => hX m2 (fun s hs => h s (by omega)), fun c => absurd (nI_lt (a := 999) (by omega) (by omega)) c⟩
  | succ m ih =>
    intro k m2 hk h
    unfold wp_X6_findSums_2
    have hin : vp_in (nI k) 1000 := vp_in_nI (by omega) (by omega)
    rw [nI_clamp (by omega), nI_1]
    refine ⟨fun c => absurd c (nI_nlt (a := 999) (by omega) (by omega)), fun _ => ⟨fun c => ⟨hin, ih _ _ (by omega) (fun s hs => ?_)⟩, fun c => ⟨hin, ih _ _ (by omega) (fun s hs => ?_)⟩⟩⟩
    · by_cases e : s = k
      · subst e
        rw [pk_us, if_neg (fun e => c (by rw [e]; rfl))]
      · rw [pk_un e]; exact h s (by omega)
    · by_cases e : s = k
      · subst e
        have : s = 0 := (nI_eq (b := 0) (by omega) (by omega)).mp c
        rw [pk_us, if_pos this]
      · rw [pk_un e]; exact h s (by omega)
theorem sp_fs63 {x1 : Int32} {mca : Nat → Int32} {K : (Nat → Int32) → (Nat → Int32) → Prop} {X : (Nat → Int32) → Prop} (hX : ∀ m2 : Nat → Int32, (∀ s, s < 1000 → m2 s = if mca s = 0 then 1000000 else 0) → X m2) :
    ∀ (m k : Nat) (m2 : Nat → Int32), k + m = 1000 → (∀ s, s < k → m2 s = if mca s = 0 then 1000000 else 0) → wp_X6_findSums_63 x1 mca K X (m + 1) (nI k) m2 := by
  intro m
  induction m with
  | zero =>
    intro k m2 hk h
    unfold wp_X6_findSums_63
    refine ⟨fun _ => hX m2 (fun s hs => h s (by omega)), fun c => absurd (nI_lt (a := 999) (by omega) (by omega)) c⟩
  | succ m ih =>
    intro k m2 hk h
    unfold wp_X6_findSums_63
    have hin : vp_in (nI k) 1000 := vp_in_nI (by omega) (by omega)
    rw [nI_clamp (by omega), nI_1]
    refine ⟨fun c => absurd c (nI_nlt (a := 999) (by omega) (by omega)), fun _ => ⟨hin, fun c => ⟨hin, ih _ _ (by omega) (fun s hs => ?_)⟩, fun c => ⟨hin, ih _ _ (by omega) (fun s hs => ?_)⟩⟩⟩
    · by_cases e : s = k
      · subst e; rw [pk_us, if_pos c]
      · rw [pk_un e]; exact h s (by omega)
    · by_cases e : s = k
      · subst e; rw [pk_us, if_neg c]
      · rw [pk_un e]; exact h s (by omega)
def FrOK (P0 : Nat → Prop) (v t u : Nat) (a f : Int32) : Prop := (a = 1 ∧ ∃ c, f = nI c ∧ c ≤ t ∧ c * v ≤ u ∧ P0 (u - c * v) ∧ ∀ d, d < c → d * v ≤ u → ¬ P0 (u - d * v)) ∨ (a = 0 ∧ f = 1000000 ∧ ∀ c, c ≤ t → c * v ≤ u → ¬ P0 (u - c * v))
theorem sp_fs104 {k v t : Nat} {P0 : Nat → Prop} {mva mtu mca0 : Nat → Int32} {K : (Nat → Int32) → (Nat → Int32) → Prop} {X : (Nat → Int32) → (Nat → Int32) → Prop} (hk : k < 6) (hv : mva k = nI v) (hv1 : 1 ≤ v) (hv2 : v ≤ 200) (ht : mtu k = nI t) (ht2 : t ≤ 20) (h0 : CA mca0 P0)
    (hX : ∀ m2 f2 : Nat → Int32, CA m2 (fun s => ∃ c, c ≤ t ∧ c * v ≤ s ∧ P0 (s - c * v)) → X m2 f2) :
    ∀ (m s : Nat) (m2 f2 : Nat → Int32), s + m = 1000 → v ≤ s → (∀ u, u < s → FrOK P0 v t u (m2 u) (f2 u)) → (∀ u, s ≤ u → u < 1000 → m2 u = mca0 u ∧ f2 u = if mca0 u = 0 then 1000000 else 0) → wp_X6_findSums_104 (nI k) mva mtu K X (m + 1) (nI s) m2 f2 := by
  intro m
  induction m with
  | zero =>
    intro s m2 f2 hs hvs h1 h2
    unfold wp_X6_findSums_104
    refine ⟨fun _ => hX m2 f2 (fun u hu => ?_), fun c => absurd (nI_lt (a := 999) (by omega) (by omega)) c⟩
    rcases h1 u (by omega) with ⟨e, c, -, h3, h4, h5, -⟩ | ⟨e, -, h3⟩
    · exact ⟨Or.inr e, fun _ => ⟨c, h3, h4, h5⟩, fun _ => e⟩
    · refine ⟨Or.inl e, fun q => ?_, fun ⟨c, h4, h5, h6⟩ => absurd h6 (h3 c h4 h5)⟩
      rw [e] at q; exact absurd q (by decide)
  | succ m ih =>
    intro s m2 f2 hs hvs h1 h2
    unfold wp_X6_findSums_104
    have hin : vp_in (nI s) 1000 := vp_in_nI (by omega) (by omega)
    have hik : vp_in (nI k) 6 := vp_in_nI hk (by omega)
    rw [nI_clamp (show s < 2 ^ 31 by omega), nI_clamp (show k < 2 ^ 31 by omega), nI_1, hv, ht, pk_sub hvs, nI_clamp (show s - v < 2 ^ 31 by omega)]
    have hinv : vp_in (nI (s - v)) 1000 := vp_in_nI (by omega) (by omega)
    obtain ⟨e1, e2⟩ := h2 s (Nat.le_refl _) (by omega)
    have keep : FrOK P0 v t s (m2 s) (f2 s) → wp_X6_findSums_104 (nI k) mva mtu K X (m + 1) (nI (s + 1)) m2 f2 := fun hf => ih (s + 1) m2 f2 (by omega) (by omega) (fun u hu => by
      by_cases e : u = s
      · subst e; exact hf
      · exact h1 u (by omega)) (fun u hu1 hu2 => h2 u (by omega) hu2)
    refine ⟨fun c => absurd c (nI_nlt (a := 999) (by omega) (by omega)), fun _ => ⟨hin, fun c => keep ?_, fun c => ⟨hik, hinv, hik, fun c2 => ⟨hin, hik, hinv, hin, ?_⟩, fun c2 => keep ?_⟩⟩⟩
    · have hP : P0 s := (h0.ne0 (by omega)).mp (e1 ▸ c)
      refine Or.inl ⟨?_, 0, ?_, by omega, by omega, by simpa using hP, fun d hd => by omega⟩
      · rw [e1]; exact (h0 s (by omega)).2.mpr hP
      · rw [e2, if_neg (e1 ▸ c)]; rfl
    · have hP : ¬ P0 s := (h0.eq0 (by omega)).mp (e1 ▸ c)
      refine ih (s + 1) _ _ (by omega) (by omega) (fun u hu => ?_) (fun u hu1 hu2 => ?_)
      · by_cases e : u = s
        · subst e
          rw [pk_us, pk_us]
          rcases h1 (u - v) (by omega) with ⟨-, c', h3, h4, h5, h6, h7⟩ | ⟨-, h3, -⟩
          · rw [h3] at c2 ⊢
            have hlt : c' < t := (nI_ltI (by omega) (by omega)).mp c2
            have em : (c' + 1) * v = c' * v + v := Nat.succ_mul _ _
            refine Or.inl ⟨rfl, c' + 1, nI_1 c', by omega, by omega, by rw [em, show u - (c' * v + v) = u - v - c' * v by omega]; exact h6, fun d hd hdv => ?_⟩
            cases d with
            | zero => simpa using hP
            | succ d =>
              have em2 : (d + 1) * v = d * v + v := Nat.succ_mul _ _
              rw [em2, show u - (d * v + v) = u - v - d * v by omega]
              exact h7 d (by omega) (by omega)
          · rw [h3] at c2
            exact absurd c2 (nI_nlt (a := 1000000) (by omega) (by omega))
        · rw [pk_un e, pk_un e]; exact h1 u (by omega)
      · rw [pk_un (by omega), pk_un (by omega)]; exact h2 u (by omega) hu2
    · have hP : ¬ P0 s := (h0.eq0 (by omega)).mp (e1 ▸ c)
      refine Or.inr ⟨c, ?_, fun d hd hdv => ?_⟩
      · rw [e2, if_pos (e1 ▸ c)]
      · cases d with
        | zero => simpa using hP
        | succ d =>
          have em2 : (d + 1) * v = d * v + v := Nat.succ_mul _ _
          rw [em2, show s - (d * v + v) = s - v - d * v by omega]
          rcases h1 (s - v) (by omega) with ⟨-, c', h3, h4, h5, h6, h7⟩ | ⟨-, h3, h4⟩
          · rw [h3] at c2
            refine h7 d ?_ (by omega)
            rcases Nat.lt_or_ge c' t with q | q
            · exact absurd (nI_lt q (by omega)) c2
            · omega
          · exact h4 d (by omega) (by omega)
theorem sp_fs32 {n : Nat} {V T : Nat → Nat} {mnk : Int32} {mva mno mtu mst : Nat → Int32} {K X : (Nat → Int32) → (Nat → Int32) → Prop} (h : KN n V T mnk mva mtu)
    (hX : ∀ m2 f2 : Nat → Int32, CA m2 (Rc n V (spN mno mst T 0)) → X m2 f2) :
    ∀ (m k : Nat) (m2 f2 : Nat → Int32), k + m = n → CA m2 (Rc n V (fun i => if i < k then spN mno mst T 0 i else 0)) → wp_X6_findSums_32 mnk mva mno mtu mst K X (m + 1) (nI k) m2 f2 := by
  obtain ⟨rfl, hn, hv, ht⟩ := h
  intro m
  induction m with
  | zero =>
    intro k m2 f2 hk h2
    unfold wp_X6_findSums_32
    refine ⟨fun _ => hX m2 f2 (fun s hs => ⟨(h2 s hs).1, (h2 s hs).2.trans (Rc_congr (fun i hi => by rw [if_pos (by omega)]))⟩), fun c => absurd (nI_le (by omega) (by omega)) c⟩
  | succ m ih =>
    intro k m2 f2 hk h2
    unfold wp_X6_findSums_32
    have hin : vp_in (nI k) 6 := vp_in_nI (by omega) (by omega)
    obtain ⟨hv1, hv2, hv3⟩ := hv k (by omega)
    obtain ⟨ht1, ht2⟩ := ht k (by omega)
    rw [nI_clamp (by omega), nI_1]
    have skip : gvs mno mst k = false → wp_X6_findSums_32 (nI n) mva mno mtu mst K X (m + 1) (nI (k + 1)) m2 f2 := fun hg => ih (k + 1) m2 f2 (by omega) (fun s hs => ⟨(h2 s hs).1, (h2 s hs).2.trans (Rc_congr (fun i hi => by
      by_cases e : i = k
      · subst e; simp [spN, hg]
      · by_cases e2 : i < k
        · simp [e2, show i < k + 1 by omega]
        · simp [e2, show ¬ i < k + 1 by omega]))⟩)
    refine ⟨fun c => absurd c (nI_ge (by omega) (by omega)), fun _ => ⟨hin, fun c => skip (by simp [gvs, c]), fun c => ⟨hin, fun c2 => ⟨1001, ?_⟩, fun c2 => skip (by simp [gvs, c2])⟩⟩⟩
    have hg : gvs mno mst k = true := by simp [gvs, c, c2]
    refine sp_fs63 (fun f3 hf3 => ⟨hin, 1001 - V k, ?_⟩) 1000 0 f2 (by omega) (fun s hs => by omega)
    rw [hv1, show 1001 - V k = (1000 - V k) + 1 by omega]
    refine sp_fs104 (k := k) (v := V k) (t := T k) (mca0 := m2) (by omega) hv1 hv2 hv3 ht1 ht2 h2 (fun m3 f4 h3 => ?_) (1000 - V k) (V k) m2 f3 (by omega) (Nat.le_refl _) (fun u hu => ?_) (fun u _ hu2 => ⟨rfl, hf3 u hu2⟩)
    · refine ih (k + 1) m3 f4 (by omega) (fun s hs => ⟨(h3 s hs).1, (h3 s hs).2.trans ?_⟩)
      have e : Rc n V (fun i => if i < k + 1 then spN mno mst T 0 i else 0) s ↔ Rc n V (st (fun i => if i < k then spN mno mst T 0 i else 0) k ((fun i => if i < k then spN mno mst T 0 i else 0) k + T k)) s := by
        refine Rc_congr (fun i hi => ?_)
        by_cases e : i = k
        · subst e; rw [st_s]; simp [spN, hg]
        · rw [st_n e]
          by_cases e2 : i < k
          · simp [e2, show i < k + 1 by omega]
          · simp [e2, show ¬ i < k + 1 by omega]
      rw [e, Rc_bump (show k < n by omega)]
    · have hone : ∀ d, d * V k ≤ u → d = 0 := by
        intro d hd
        cases d with
        | zero => rfl
        | succ d =>
          have : (d + 1) * V k = d * V k + V k := Nat.succ_mul _ _
          omega
      rcases (h2 u (by omega)).1 with e | e
      · refine Or.inr ⟨e, ?_, fun d _ hd2 => ?_⟩
        · rw [hf3 u (by omega), if_pos e]
        · rw [hone d hd2]
          simpa using (h2.eq0 (by omega)).mp e
      · refine Or.inl ⟨e, 0, ?_, by omega, by omega, ?_, fun d hd => by omega⟩
        · rw [hf3 u (by omega), if_neg (by rw [e]; decide)]; rfl
        · simpa using (h2 u (by omega)).2.mp e
theorem sp_findSums {n : Nat} {V T : Nat → Nat} {mnk : Int32} {mva mno mtu mst mca mfr : Nat → Int32} {K : (Nat → Int32) → (Nat → Int32) → Prop} (h : KN n V T mnk mva mtu)
    (hK : ∀ m2 f2 : Nat → Int32, CA m2 (Rc n V (spN mno mst T 0)) → K m2 f2) : wp_X6_findSums mnk mva mno mtu mst mca mfr K := by
  unfold wp_X6_findSums
  refine ⟨1001, sp_fs2 (fun m2 hm2 => ⟨n + 1, ?_⟩) 1000 0 mca (by omega) (fun s hs => by omega)⟩
  refine sp_fs32 (X := fun m2 f2 => K m2 f2) h hK n 0 m2 mfr (by omega) (fun s hs => ?_)
  have e : Rc n V (fun i => if i < 0 then spN mno mst T 0 i else 0) s ↔ s = 0 := (Rc_congr (fun i hi => by simp)).trans Rc_0
  rw [e, hm2 s hs]
  by_cases e0 : s = 0
  · simp [e0]
  · rw [if_neg e0]
    exact ⟨Or.inl rfl, ⟨fun q => absurd q (by decide), fun q => absurd q e0⟩⟩
