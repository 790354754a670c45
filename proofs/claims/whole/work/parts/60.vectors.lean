/-! need: what is added, and in which order -/
def s6 (a : Nat → Nat) : Nat := a 0 + a 1 + a 2 + a 3 + a 4 + a 5
def mu (a : Nat → Nat) : Nat := a 0 * 3125 + a 1 * 625 + a 2 * 125 + a 3 * 25 + a 4 * 5 + a 5
theorem six {P : Nat → Prop} (h0 : P 0) (h1 : P 1) (h2 : P 2) (h3 : P 3) (h4 : P 4) (h5 : P 5) : ∀ i, i < 6 → P i
  | 0, _ => h0
  | 1, _ => h1
  | 2, _ => h2
  | 3, _ => h3
  | 4, _ => h4
  | 5, _ => h5
theorem mu_inj {a b : Nat → Nat} (ha : s6 a ≤ 4) (hb : s6 b ≤ 4) (h : mu a = mu b) : ∀ i, i < 6 → a i = b i := by
  unfold s6 at ha hb
  unfold mu at h
  have e0 : a 0 = b 0 := by omega
  have e1 : a 1 = b 1 := by omega
  have e2 : a 2 = b 2 := by omega
  have e3 : a 3 = b 3 := by omega
  have e4 : a 4 = b 4 := by omega
  exact six e0 e1 e2 e3 e4 (by omega)
theorem mu_lt {k : Nat} {a b : Nat → Nat} (hk : k < 6) (h1 : ∀ i, i < k → a i = b i) (h2 : b k < a k) (hb : s6 b ≤ 4) : mu b < mu a := by
  unfold s6 at hb
  unfold mu
  match k, hk with
  | 0, _ => omega
  | 1, _ => have := h1 0 (by omega); omega
  | 2, _ => have := h1 0 (by omega); have := h1 1 (by omega); omega
  | 3, _ => have := h1 0 (by omega); have := h1 1 (by omega); have := h1 2 (by omega); omega
  | 4, _ => have := h1 0 (by omega); have := h1 1 (by omega); have := h1 2 (by omega); have := h1 3 (by omega); omega
  | 5, _ => have := h1 0 (by omega); have := h1 1 (by omega); have := h1 2 (by omega); have := h1 3 (by omega); have := h1 4 (by omega); omega
theorem s6_sm {a : Nat → Nat} : s6 a = sm a 6 := by
  show _ = 0 + a 0 + a 1 + a 2 + a 3 + a 4 + a 5
  unfold s6; omega
theorem s6_st {a : Nat → Nat} {k x : Nat} (hk : k < 6) : s6 (st a k x) + a k = s6 a + x := by
  rw [s6_sm, s6_sm]; exact sm_st1 hk
theorem s6_le {a b : Nat → Nat} (h : ∀ i, i < 6 → a i ≤ b i) : s6 a ≤ s6 b := by
  unfold s6
  have := h 0 (by omega); have := h 1 (by omega); have := h 2 (by omega); have := h 3 (by omega); have := h 4 (by omega); have := h 5 (by omega)
  omega
theorem s6_eq {a b : Nat → Nat} (h : ∀ i, i < 6 → a i ≤ b i) (e : s6 a = s6 b) : ∀ i, i < 6 → a i = b i := by
  unfold s6 at e
  have h0 := h 0 (by omega); have h1 := h 1 (by omega); have h2 := h 2 (by omega); have h3 := h 3 (by omega); have h4 := h 4 (by omega); have h5 := h 5 (by omega)
  exact six (by omega) (by omega) (by omega) (by omega) (by omega) (by omega)
def FitC (n : Nat) (R T : Nat → Nat) (kn ks : Nat → Int32) (a : Nat → Nat) : Prop := ∀ k, k < 6 → 0 < a k → k < n ∧ gvs kn ks k = true ∧ T k + a k ≤ R k
def FitR (n : Nat) (R T : Nat → Nat) (kn : Nat → Int32) (a : Nat → Nat) : Prop := ∀ k, k < 6 → 0 < a k → k < n ∧ kn k = 0 ∧ T k + a k ≤ R k
def SolC (n : Nat) (V R T P : Nat → Nat) (kn ks : Nat → Int32) (a : Nat → Nat) : Prop := FitC n R T kn ks a ∧ AllT n V R (fun i => T i + a i) P kn ks
def SolR (n : Nat) (V R T P : Nat → Nat) (kn ks : Nat → Int32) (a : Nat → Nat) : Prop := FitR n R T kn a ∧ AllT n V R (fun i => T i + a i) P kn ks
theorem AllT_g {n : Nat} {V R T T2 P : Nat → Nat} {kn ks : Nat → Int32} (h : ∀ i, i < n → gvs kn ks i = true → T i = T2 i) : AllT n V R T P kn ks → AllT n V R T2 P kn ks :=
  AllT_congr h (fun i hi hg => by unfold spN; rw [hg]; rfl)
theorem SolC_R {n : Nat} {V R T P : Nat → Nat} {kn ks : Nat → Int32} {a : Nat → Nat} (h : SolC n V R T P kn ks a) : SolR n V R T P kn ks a :=
  ⟨fun k hk ha => by
    obtain ⟨h1, h2, h3⟩ := h.1 k hk ha
    unfold gvs at h2
    simp at h2
    exact ⟨h1, h2.1, h3⟩, h.2⟩
/-- without what lies in tubes that don't give -/
def zs (kn ks : Nat → Int32) (a : Nat → Nat) : Nat → Nat := fun i => if gvs kn ks i = true then a i else 0
theorem zs_le {kn ks : Nat → Int32} {a : Nat → Nat} (i : Nat) : zs kn ks a i ≤ a i := by
  unfold zs
  by_cases h : gvs kn ks i = true
  · rw [if_pos h]; exact Nat.le_refl _
  · rw [if_neg h]; exact Nat.zero_le _
theorem SolR_zs {n : Nat} {V R T P : Nat → Nat} {kn ks : Nat → Int32} {a : Nat → Nat} (h : SolR n V R T P kn ks a) : SolC n V R T P kn ks (zs kn ks a) := by
  refine ⟨fun k hk ha => ?_, AllT_g (fun i hi hg => ?_) h.2⟩
  · unfold zs at ha ⊢
    by_cases hg : gvs kn ks k = true
    · rw [if_pos hg] at ha ⊢
      have := h.1 k hk ha
      exact ⟨this.1, hg, this.2.2⟩
    · rw [if_neg hg] at ha; omega
  · show T i + a i = T i + zs kn ks a i
    unfold zs
    rw [if_pos hg]
theorem SolC_congr {n : Nat} (hn : n ≤ 6) {V R T P : Nat → Nat} {kn ks : Nat → Int32} {a b : Nat → Nat} (e : ∀ i, i < 6 → a i = b i) (h : SolC n V R T P kn ks a) : SolC n V R T P kn ks b :=
  ⟨fun k hk hb => by rw [← e k hk] at hb ⊢; exact h.1 k hk hb, AllT_g (fun i hi _ => by show T i + a i = T i + b i; rw [e i (by omega)]) h.2⟩
theorem sp_copyOf {p q : Nat} {wd : Nat → Nat → Int64} {K : (Nat → Nat → Int64) → Prop} (h : ∀ wd2, (∀ i, i ≠ p → wd2 i = wd i) → (∀ s, s < 1024 → bw (wd2 p) s = bw (wd q) s) → K wd2) : wp_X2_copyOf p q wd K := by
  unfold wp_X2_copyOf
  refine ⟨by unfold ac_ok; decide, h _ (fun i hi => va_up_ne _ _ hi) (fun s hs => ?_)⟩
  unfold bw
  rw [va_up_self]
  unfold va_cpy
  rw [show (0 : Int32).toNatClampNeg = 0 from rfl, show (16 : Int32).toNatClampNeg = 16 from rfl, if_pos ⟨Nat.zero_le _, by omega⟩, Nat.zero_add, Nat.sub_zero]
def Ext (f : Nat) (a : Nat → Nat) (t : Nat) (b : Nat → Nat) : Prop := s6 b = t ∧ (∀ i, i < f → b i = a i) ∧ (∀ i, i < 6 → a i ≤ b i)
theorem sp_putsOut {n t : Nat} {V R T P : Nat → Nat} {pr kv kn kr kt kb ks kg : Nat → Int32} (hK : KI n V R T (nI n) kv kn kr kt kb ks kg) (hp : PRI P pr) (ht : t ≤ 4) :
    ∀ (q l f : Nat) (a : Nat → Nat) (wd : Nat → Nat → Int64) (ad : Nat → Int32) (K : Int32 → (Nat → Nat → Int64) → (Nat → Int32) → Prop), t < q + l → l ≤ t → f < 6 → FitC n R T kn ks a → (∀ i, f < i → a i = 0) → s6 a = l → (∀ i, i < 6 → ad i = nI (a i)) → (∀ s, s < 1024 → (bw (wd (l + 1)) s = true ↔ Rc n V (spN kn ks (fun i => T i + a i) 0) s)) →
      (∀ b wd2 ad2, Ext f a t b → SolC n V R T P kn ks b → (∀ b2, Ext f a t b2 → SolC n V R T P kn ks b2 → mu b2 ≤ mu b) → (∀ i, i < 6 → ad2 i = nI (b i)) → K 1 wd2 ad2) →
      ((∀ b, Ext f a t b → ¬ SolC n V R T P kn ks b) → ∀ wd2 ad2, (∀ i, i ≤ l + 1 → wd2 i = wd i) → (∀ i, i < 6 → ad2 i = nI (a i)) → K 0 wd2 ad2) →
      wp_X1_putsOut q (nI l) (nI f) (nI t) (nI n) pr kv kn kr kt ks wd ad K := by
  obtain ⟨-, hn, hv, hvd, hbb, hrt, hz⟩ := id hK
  intro q
  induction q with
  | zero => intro l f a wd ad K h1 h2; omega
  | succ q ihq =>
    intro l f a wd ad K h1 h2 hf6 hfit hfz hsum had hw hK1 hK0
    have hab : ∀ i, i < 6 → a i ≤ 4 := by
      unfold s6 at hsum
      exact six (by omega) (by omega) (by omega) (by omega) (by omega) (by omega)
    unfold wp_X1_putsOut
    refine ⟨fun c => ?_, fun c => ⟨fun c2 => ⟨n - f + 1, ?_⟩, fun c2 => ?_⟩⟩
    · have e : l = t := by have := (nI_leI (by omega) (by omega)).mp c; omega
      subst e
      have same : ∀ b, Ext f a l b → ∀ i, i < 6 → a i = b i := fun b hb => s6_eq hb.2.2 (by rw [hsum, hb.1])
      refine sp_isOut (a := a) (T := T) hK hp (by omega) (fun k hk => ⟨had k (by omega), by have := hab k (by omega); omega⟩) hw (fun hall => ?_) (fun hno => ?_)
      · refine hK1 a wd ad ⟨hsum, fun _ _ => rfl, fun _ _ => Nat.le_refl _⟩ ⟨hfit, hall⟩ (fun b2 hb2 _ => ?_) had
        have e := same b2 hb2
        unfold mu
        rw [e 0 (by omega), e 1 (by omega), e 2 (by omega), e 3 (by omega), e 4 (by omega), e 5 (by omega)]
        exact Nat.le_refl _
      · refine hK0 (fun b hb hs => hno ?_) wd ad (fun _ _ => rfl) had
        exact (SolC_congr hn (fun i hi => (same b hb i hi).symm) hs).2
    · have hlt : l < t := by
        rcases Nat.lt_or_ge l t with g | g
        · exact g
        · exact absurd (nI_le g (by omega)) c
      have lp : ∀ (m k : Nat) (wd2 : Nat → Nat → Int64) (ad2 : Nat → Int32), (k + m = n ∨ (m = 0 ∧ n ≤ k)) → k ≤ 6 → f ≤ k → (∀ i, i ≤ l + 1 → wd2 i = wd i) → (∀ i, i < 6 → ad2 i = nI (a i)) → (∀ b, Ext f a t b → SolC n V R T P kn ks b → ∀ i, i < k → b i = a i) → wp_X1_putsOut_21 (wp_X1_putsOut q) (nI l) (nI t) (nI n) pr kv kn kr kt ks K (fun wd_4 ad_4 => K 0 wd_4 ad_4) (m + 1) (nI k) wd2 ad2 := by
        intro m
        induction m with
        | zero =>
          intro k wd2 ad2 hk hk6 hfk hwd had2 hno
          have hnk : n ≤ k := by omega
          unfold wp_X1_putsOut_21
          refine ⟨fun _ => hK0 (fun b hb hs => ?_) wd2 ad2 hwd had2, fun q => absurd (nI_le hnk (by omega)) q⟩
          have e := hno b hb hs
          have le : s6 b ≤ s6 a := s6_le (fun i hi => by
            rcases Nat.lt_or_ge i k with g | g
            · rw [e i g]; exact Nat.le_refl _
            · rcases Nat.eq_zero_or_pos (b i) with z | z
              · rw [z]; exact Nat.zero_le _
              · have := (hs.1 i hi z).1; omega)
          have := hb.1
          omega
        | succ m ih =>
          intro k wd2 ad2 hk hk6 hfk hwd had2 hno
          have hkn : k < n := by omega
          unfold wp_X1_putsOut_21
          have hin : vp_in (nI k) 6 := vp_in_nI (by omega) (by omega)
          obtain ⟨r1, r2, t1, t2⟩ := hrt k (by omega)
          obtain ⟨v1, v2, v3⟩ := hv k hkn
          have hak := hab k (by omega)
          rw [nI_clamp (show k < 2 ^ 31 by omega), nI_1]
          have skip : (∀ b, Ext f a t b → SolC n V R T P kn ks b → ¬ a k < b k) → ∀ (wd3 : Nat → Nat → Int64) (ad3 : Nat → Int32), (∀ i, i ≤ l + 1 → wd3 i = wd i) → (∀ i, i < 6 → ad3 i = nI (a i)) → wp_X1_putsOut_21 (wp_X1_putsOut q) (nI l) (nI t) (nI n) pr kv kn kr kt ks K (fun wd_4 ad_4 => K 0 wd_4 ad_4) (m + 1) (nI (k + 1)) wd3 ad3 := by
            intro hskip wd3 ad3 hwd3 had3
            refine ih (k + 1) wd3 ad3 (by omega) (by omega) (by omega) hwd3 had3 (fun b hb hs i hi => ?_)
            by_cases e : i = k
            · subst e
              have := hskip b hb hs
              have := hb.2.2 i (by omega)
              omega
            · exact hno b hb hs i (by omega)
          refine ⟨fun q => absurd q (nI_ge hkn (by omega)), fun _ => ⟨hin, sp_gives ⟨fun q => ?_, fun q => ⟨hin, ?_⟩⟩⟩⟩
          · rw [b2_0] at q
            refine skip (fun b hb hs hlt => ?_) wd2 ad2 hwd had2
            have := (hs.1 k (by omega) (by omega)).2.1
            rw [q] at this; cases this
          · rw [b2_n0] at q
            unfold wp_X0_free
            rw [r1, t1, pk_sub t2, had2 k (by omega)]
            refine ⟨fun q2 => ?_, fun q2 => ⟨hin, hin, ?_⟩⟩
            · have hle := (nI_leI (by omega) (by omega)).mp q2
              refine skip (fun b hb hs hlt => ?_) wd2 ad2 hwd had2
              have := (hs.1 k (by omega) (by omega)).2.2
              omega
            · have hfree : a k < R k - T k := (nI_ltI (by omega) (by omega)).mp (nle_lt q2)
              rw [nI_1, nI_clamp (show l + 1 < 2 ^ 31 by omega), nI_clamp (show l < 2 ^ 31 by omega), v1]
              have hin5 : vp_in (nI (l + 1)) 5 := vp_in_nI (by omega) (by omega)
              refine ⟨hin5, vp_in_nI (by omega) (by omega), sp_copyOf (fun wd3 e1 e2 => ⟨hin5, ?_⟩)⟩
              refine sp_addCoins (n := 1) v3 (by omega) (fun wd4 e3 e4 => ?_)
              have wlo : ∀ i, i ≤ l + 1 → wd4 i = wd i := fun i hi => by rw [e3 i (by omega), e1 i (by omega)]; exact hwd i hi
              have hak2 : st a k (a k + 1) k = a k + 1 := st_s
              have htail : ∀ i, k < i → st a k (a k + 1) i = 0 := fun i hi => by rw [st_n (by omega)]; exact hfz i (by omega)
              have inX : ∀ b, Ext f a t b → SolC n V R T P kn ks b → a k < b k → Ext k (st a k (a k + 1)) t b := fun b hb hs hlt => ⟨hb.1, fun i hi => by rw [st_n (by omega)]; exact hno b hb hs i hi, fun i hi => by
                by_cases e : i = k
                · subst e; rw [hak2]; exact hlt
                · rw [st_n e]; exact hb.2.2 i hi⟩
              have outX : ∀ b, Ext k (st a k (a k + 1)) t b → Ext f a t b ∧ a k < b k ∧ ∀ i, i < k → b i = a i := fun b hb => by
                have hlow : ∀ i, i < k → b i = a i := fun i hi => by have := hb.2.1 i hi; rwa [st_n (by omega)] at this
                have hh := hb.2.2 k (by omega)
                rw [hak2] at hh
                refine ⟨⟨hb.1, fun i hi => hlow i (by omega), fun i hi => ?_⟩, by omega, hlow⟩
                by_cases e : i = k
                · subst e; omega
                · have := hb.2.2 i hi; rwa [st_n e] at this
              refine ihq (l + 1) k (st a k (a k + 1)) wd4 _ _ (by omega) (by omega) (by omega) (fun i hi ha => ?_) htail ?_ (fun i hi => ?_) (fun s hs => ?_) (fun b wd5 ad5 g1 g2 g3 g4 => ⟨fun q => absurd q (by decide), fun _ => hK1 b wd5 ad5 (outX b g1).1 g2 (fun b2 h1 h2 => ?_) g4⟩) (fun hnone wd5 ad5 g1 g2 => ⟨fun _ => ⟨hin, hin, ?_⟩, fun q => absurd rfl q⟩)
              · by_cases e : i = k
                · subst e; rw [hak2]; exact ⟨hkn, q, by omega⟩
                · rw [st_n e] at ha ⊢; exact hfit i hi ha
              · have := s6_st (a := a) (x := a k + 1) (show k < 6 by omega); omega
              · by_cases e : i = k
                · subst e; rw [pk_us, hak2, nI_1]
                · rw [pk_un e, st_n e]; exact had2 i hi
              · have hco : ∀ u, u < 1024 → (bw (wd3 (l + 1 + 1)) u = true ↔ Rc n V (spN kn ks (fun i => T i + a i) 0) u) := fun u hu => by
                  rw [e2 u hu, hwd (l + 1) (by omega)]; exact hw u hu
                rw [e4 s hs]
                have hb1 := Rc_bump (n := n) (k := k) (m := 1) (s := s) (V := V) (sp := spN kn ks (fun i => T i + a i) 0) hkn
                have hsame : ∀ i, i < n → st (spN kn ks (fun i => T i + a i) 0) k (spN kn ks (fun i => T i + a i) 0 k + 1) i = spN kn ks (fun i => T i + st a k (a k + 1) i) 0 i := fun i hi => by
                  by_cases e : i = k
                  · subst e
                    rw [st_s]
                    unfold spN
                    rw [if_pos q, if_pos q]
                    show T i + a i - 0 + 1 = T i + st a i (a i + 1) i - 0
                    rw [hak2]
                    omega
                  · rw [st_n e]
                    unfold spN
                    show (if gvs kn ks i = true then T i + a i - 0 else 0) = (if gvs kn ks i = true then T i + st a k (a k + 1) i - 0 else 0)
                    rw [st_n e]
                rw [← Rc_congr hsame, hb1]
                constructor
                · rintro ⟨x, x1, x2, x3⟩; exact ⟨x, x1, x2, (hco _ (by omega)).mp x3⟩
                · rintro ⟨x, x1, x2, x3⟩; exact ⟨x, x1, x2, (hco _ (by omega)).mpr x3⟩
              · by_cases hgt : a k < b2 k
                · exact g3 b2 (inX b2 h1 h2 hgt) h2
                · obtain ⟨o1, o2, o3⟩ := outX b g1
                  have := h1.1
                  exact Nat.le_of_lt (mu_lt (k := k) (by omega) (fun i hi => by rw [o3 i hi, hno b2 h1 h2 i hi]) (by omega) (by omega))
              · rw [g2 k (by omega), hak2, nI_p1]
                refine skip (fun b hb hs hlt => hnone b (inX b hb hs hlt) hs) wd5 _ (fun i hi => by rw [g1 i (by omega)]; exact wlo i hi) (fun i hi => ?_)
                by_cases e : i = k
                · subst e; rw [pk_us]
                · rw [pk_un e, g2 i hi, st_n e]
      exact lp (n - f) f wd ad (by omega) (by omega) (Nat.le_refl _) (fun _ _ => rfl) had (fun b hb _ i hi => hb.2.1 i hi)
    · have : 4 ≤ l := (nI_leI (a := 4) (by omega) (by omega)).mp (nlt_le c2)
      exact absurd (nI_le (a := t) (b := l) (by omega) (by omega)) c
theorem sp_fewest {n : Nat} {V R T P : Nat → Nat} {pr kv kn kr kt kb ks kg ad : Nat → Int32} {wd : Nat → Nat → Int64} {K : Int32 → (Nat → Nat → Int64) → (Nat → Int32) → Prop} (hK : KI n V R T (nI n) kv kn kr kt kb ks kg) (hp : PRI P pr)
    (h1 : ∀ t b wd2 ad2, t ≤ 4 → s6 b = t → SolC n V R T P kn ks b → (∀ b2, s6 b2 = t → SolC n V R T P kn ks b2 → mu b2 ≤ mu b) → (∀ b2, s6 b2 < t → ¬ SolC n V R T P kn ks b2) → (∀ i, i < 6 → ad2 i = nI (b i)) → K (nI t) wd2 ad2)
    (h0 : (∀ b2, s6 b2 ≤ 4 → ¬ SolC n V R T P kn ks b2) → ∀ wd2 ad2, K (-1) wd2 ad2) : wp_X1_fewest 4 (nI n) pr kv kn kr kt ks wd ad K := by
  unfold wp_X1_fewest
  refine ⟨vp_in_l (by decide), ?_⟩
  refine sp_collect (j := 1) (r := 0) hK.toKN (by omega) (fun wd1 _ hw => ⟨5 + 1, ?_⟩)
  have e0 : (fun i => T i + 0) = T := funext (fun i => Nat.add_zero _)
  have lp : ∀ (m t : Nat) (wd2 : Nat → Nat → Int64) (ad2 : Nat → Int32), t + m = 5 → (∀ i, i ≤ 1 → wd2 i = wd1 i) → (∀ b2, s6 b2 < t → ¬ SolC n V R T P kn ks b2) → wp_X1_fewest_13 4 (nI n) pr kv kn kr kt ks K (fun wd_3 ad_3 => K (-1 : Int32) wd_3 ad_3) (m + 1) (nI t) wd2 ad2 := by
    intro m
    induction m with
    | zero =>
      intro t wd2 ad2 ht hwd hno
      unfold wp_X1_fewest_13
      exact ⟨fun _ => h0 (fun b hb => hno b (by omega)) wd2 ad2, fun q => absurd (nI_lt (a := 4) (by omega) (by omega)) q⟩
    | succ m ih =>
      intro t wd2 ad2 ht hwd hno
      unfold wp_X1_fewest_13
      have hE : ∀ b, s6 b = t → Ext 0 (fun _ => 0) t b := fun b hb => ⟨hb, fun i hi => by omega, fun i hi => Nat.zero_le _⟩
      refine ⟨fun q => absurd q (nI_nlt (a := 4) (by omega) (by omega)), fun _ => ⟨fun q => absurd q (nI_nlt (a := 4) (by omega) (by omega)), fun _ => ?_⟩⟩
      rw [nI_1]
      refine sp_putsOut hK hp (by omega) 6 0 0 (fun _ => 0) wd2 _ _ (by omega) (by omega) (by omega) (fun k hk hh => absurd hh (Nat.lt_irrefl 0)) (fun _ _ => rfl) rfl (fun i hi => by unfold fillI; rw [if_pos hi]; rfl) (fun s hs => by rw [e0, hwd 1 (by omega)]; exact hw s hs) (fun b wd3 ad3 g1 g2 g3 g4 => ⟨fun q => absurd q (by decide), fun _ => h1 t b wd3 ad3 (by omega) g1.1 g2 (fun b2 hb2 hs2 => g3 b2 (hE b2 hb2) hs2) hno g4⟩) (fun hnone wd3 ad3 g1 g2 => ⟨fun _ => ih (t + 1) wd3 ad3 (by omega) (fun i hi => by rw [g1 i (by omega)]; exact hwd i hi) (fun b hb => ?_), fun q => absurd rfl q⟩)
      by_cases e : s6 b = t
      · exact hnone b (hE b e)
      · exact hno b (by omega)
  exact lp 5 0 wd1 ad (by omega) (fun _ _ => rfl) (fun b hb => by omega)
