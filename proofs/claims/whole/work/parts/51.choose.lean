/-! the way that the class chooses -/
def ChOK (n : Nat) (V sp : Nat → Nat) (k b s t : Nat) : Prop := t ≤ b ∧ t * V k ≤ s ∧ ∃ M, IsMn n V (st sp k b) s M ∧ t ≤ M ∧ Cnt n V sp (s - t * V k) (M - t) ∧ ∀ t2, t < t2 → t2 ≤ b → t2 * V k ≤ s → t2 ≤ M → ¬ Cnt n V sp (s - t2 * V k) (M - t2)
theorem ChOK.un {n k b s t u : Nat} {V sp : Nat → Nat} (h1 : ChOK n V sp k b s t) (h2 : ChOK n V sp k b s u) : t = u := by
  obtain ⟨a1, a2, M, a3, a4, a5, a6⟩ := h1
  obtain ⟨b1, b2, N, b3, b4, b5, b6⟩ := h2
  have e := a3.un b3
  subst e
  rcases Nat.lt_trichotomy t u with q | q | q
  · exact absurd b5 (a6 u q b1 b2 b4)
  · exact q
  · exact absurd a5 (b6 t q a1 a2 a4)
theorem ChOK_congr {n k b s t : Nat} {V sp sp2 : Nat → Nat} (h : ∀ i, i < n → sp i = sp2 i) (h1 : ChOK n V sp k b s t) : ChOK n V sp2 k b s t := by
  obtain ⟨a1, a2, M, a3, a4, a5, a6⟩ := h1
  have h' : ∀ i, i < n → st sp k b i = st sp2 k b i := fun i hi => by
    by_cases e : i = k
    · subst e; rw [st_s, st_s]
    · rw [st_n e, st_n e]; exact h i hi
  exact ⟨a1, a2, M, (IsMn_congr h').mp a3, a4, (Cnt_congr h).mp a5, fun t2 x1 x2 x3 x4 hc => a6 t2 x1 x2 x3 x4 ((Cnt_congr h).mpr hc)⟩
theorem sp_most {r n k b s sum : Nat} {V sp : Nat → Nat} {fw : Nat → Nat → Int32} {K : Int32 → Prop} (hsum : sum ≤ 999) (hs : s ≤ sum) (hn : n ≤ 6) (hk : k < n) (h0 : sp k = 0) (hv1 : 1 ≤ V k) (hv2 : V k ≤ 200) (hb : b ≤ 20) (hsp : ∀ i, i < n → sp i ≤ 20) (h : RowOK 1000 n V sp sum (fw r)) (hre : ∃ m, Cnt n V (st sp k b) s m)
    (hK : ∀ t, ChOK n V sp k b s t → K (nI t)) : wp_X4_mostOfFewest r (nI s) (nI (V k)) (nI b) fw K := by
  have bd : ∀ {s m : Nat}, Cnt n V sp s m → m ≤ 120 := fun hc => by
    have := Cnt_le hc hsp
    have : n * 20 ≤ 6 * 20 := Nat.mul_le_mul_right 20 hn
    omega
  unfold wp_X4_mostOfFewest
  have lp : ∀ (f t : Nat) (best ch : Int32), b + 1 < t + f → t ≤ b + 1 → ((best = nI 999 ∧ ch = 0 ∧ ∀ u, u < t → u * V k ≤ s → ∀ m, ¬ Cnt n V sp (s - u * V k) m) ∨ (∃ u m, u < t ∧ u ≤ b ∧ u * V k ≤ s ∧ IsMn n V sp (s - u * V k) m ∧ best = nI (u + m) ∧ ch = nI u ∧ (∀ u2, u2 < t → u2 * V k ≤ s → ∀ m2, Cnt n V sp (s - u2 * V k) m2 → u + m ≤ u2 + m2) ∧ (∀ u2, u < u2 → u2 < t → u2 * V k ≤ s → ∀ m2, Cnt n V sp (s - u2 * V k) m2 → u + m < u2 + m2))) → wp_X4_mostOfFewest_11 r (nI s) (nI (V k)) (nI b) fw K (fun x => K x) f best ch (nI t) := by
    intro f
    induction f with
    | zero => intro t best ch h1 h2; omega
    | succ f ih =>
      intro t best ch h1 h2 hinv
      have fin : (∀ u, u ≤ b → u * V k ≤ s → u < t) → K ch := by
        intro hall
        rcases hinv with ⟨-, -, hno⟩ | ⟨u, m, c1, c2, c3, c4, c5, c6, c7, c8⟩
        · obtain ⟨M, hM⟩ := hre
          obtain ⟨u, d1, d2, d3, d4⟩ := (Cnt_bump hk h0).mp hM
          exact absurd d4 (hno u (hall u d1 d2) d2 _)
        · rw [c6]
          refine hK u ⟨c2, c3, u + m, ⟨(Cnt_bump hk h0).mpr ⟨u, c2, c3, by omega, by rw [Nat.add_sub_cancel_left]; exact c4.1⟩, fun m2 hm2 => ?_⟩, by omega, by rw [Nat.add_sub_cancel_left]; exact c4.1, fun t2 e1 e2 e3 e4 hc => ?_⟩
          · obtain ⟨u2, d1, d2, d3, d4⟩ := (Cnt_bump hk h0).mp hm2
            have := c7 u2 (hall u2 d1 d2) d2 _ d4
            omega
          · have := c8 t2 e1 (hall t2 e2 e3) e3 _ hc
            omega
      unfold wp_X4_mostOfFewest_11
      rw [pk_mul]
      refine ⟨fun c => fin (fun u hu _ => ?_), fun c => ⟨fun c2 => fin (fun u hu hus => ?_), fun c2 => ?_⟩⟩
      · have := (nI_ltI (by omega) (by omega)).mp c; omega
      · have hb2 : t * V k ≤ 21 * 200 := Nat.mul_le_mul (by omega) hv2
        have hlt : s < t * V k := (nI_ltI (by omega) (by omega)).mp c2
        rcases Nat.lt_or_ge u t with g | g
        · exact g
        · have := Nat.mul_le_mul_right (V k) g; omega
      · have htb : t ≤ b := (nI_leI (by omega) (by omega)).mp (nlt_le c)
        have hb2 : t * V k ≤ 21 * 200 := Nat.mul_le_mul (by omega) hv2
        have hts : t * V k ≤ s := (nI_leI (by omega) (by omega)).mp (nlt_le c2)
        rw [pk_sub hts, nI_clamp (by omega), nI_1]
        refine ⟨vp_in_nI (by omega) (by omega), ?_⟩
        rcases h (s - t * V k) (by omega) with ⟨mt, g1, g2⟩ | ⟨g1, g2⟩
        · have gb := bd g1.1
          rw [g2, nI_add]
          refine ⟨fun c3 => ih (t + 1) _ _ (by omega) (by omega) ?_, fun c3 => ih (t + 1) _ _ (by omega) (by omega) ?_⟩
          · rcases hinv with ⟨e1, -, -⟩ | ⟨u, m, d1, d2, d3, d4, d5, d6, d7, d8⟩
            · rw [e1] at c3
              exact absurd c3 (nI_nlt (by omega) (by omega))
            · rw [d5] at c3
              have db := bd d4.1
              have hlt : u + m < mt + t := (nI_ltI (by omega) (by omega)).mp c3
              refine Or.inr ⟨u, m, by omega, d2, d3, d4, d5, d6, fun u2 x1 x2 m2 x3 => ?_, fun u2 x0 x1 x2 m2 x3 => ?_⟩
              · by_cases e : u2 = t
                · subst e; have := g1.2 m2 x3; omega
                · exact d7 u2 (by omega) x2 m2 x3
              · by_cases e : u2 = t
                · subst e; have := g1.2 m2 x3; omega
                · exact d8 u2 x0 (by omega) x2 m2 x3
          · refine Or.inr ⟨t, mt, by omega, htb, hts, g1, by rw [Nat.add_comm], rfl, fun u2 x1 x2 m2 x3 => ?_, fun u2 x0 x1 => by omega⟩
            by_cases e : u2 = t
            · subst e; have := g1.2 m2 x3; omega
            · rcases hinv with ⟨-, -, e3⟩ | ⟨u, m, d1, d2, d3, d4, d5, d6, d7, d8⟩
              · exact absurd x3 (e3 u2 (by omega) x2 m2)
              · have db := bd d4.1
                rw [d5] at c3
                have hle : mt + t ≤ u + m := by
                  rcases Nat.lt_or_ge (u + m) (mt + t) with g | g
                  · exact absurd (nI_lt g (by omega)) c3
                  · exact g
                have := d7 u2 (by omega) x2 m2 x3
                omega
        · rw [g2, nI_add]
          have hbig : best < nI (1000 + t) := by
            rcases hinv with ⟨e1, -, -⟩ | ⟨u, m, d1, d2, d3, d4, d5, -⟩
            · rw [e1]; exact nI_lt (by omega) (by omega)
            · have := bd d4.1; rw [d5]; exact nI_lt (by omega) (by omega)
          refine ⟨fun _ => ih (t + 1) _ _ (by omega) (by omega) ?_, fun c3 => absurd hbig c3⟩
          rcases hinv with ⟨e1, e2, e3⟩ | ⟨u, m, d1, d2, d3, d4, d5, d6, d7, d8⟩
          · refine Or.inl ⟨e1, e2, fun u hu hus m hm => ?_⟩
            by_cases e : u = t
            · subst e; exact g1 m hm
            · exact e3 u (by omega) hus m hm
          · refine Or.inr ⟨u, m, by omega, d2, d3, d4, d5, d6, fun u2 x1 x2 m2 x3 => ?_, fun u2 x0 x1 x2 m2 x3 => ?_⟩
            · by_cases e : u2 = t
              · subst e; exact absurd x3 (g1 m2)
              · exact d7 u2 (by omega) x2 m2 x3
            · by_cases e : u2 = t
              · subst e; exact absurd x3 (g1 m2)
              · exact d8 u2 x0 (by omega) x2 m2 x3
  exact ⟨b + 2, lp (b + 2) 0 999 0 (by omega) (by omega) (Or.inl ⟨rfl, rfl, fun u hu => by omega⟩)⟩
def thr (V sp : Nat → Nat) (x : Nat) : Nat → Nat := fun i => if V i < x then sp i else 0
theorem thr_self {V sp : Nat → Nat} {k : Nat} : thr V sp (V k) k = 0 := by unfold thr; rw [if_neg (by omega)]
theorem thr_le {V sp : Nat → Nat} {x i : Nat} : thr V sp x i ≤ sp i := by
  unfold thr
  by_cases h : V i < x
  · rw [if_pos h]; omega
  · rw [if_neg h]; omega
/-- the value from which on the kinds stand at place t or behind it -/
def xat (n : Nat) (V pm : Nat → Nat) (t : Nat) : Nat := if t < n then V (pm t) else 201
theorem PMI.lt_iff {n : Nat} {V pm : Nat → Nat} (h : PMI n V pm) {p t : Nat} (hp : p < n) (ht : t < n) : V (pm p) < V (pm t) ↔ p < t := by
  constructor
  · intro hlt
    rcases Nat.lt_trichotomy p t with q | q | q
    · exact q
    · subst q; omega
    · have := h.2.1 t p q hp; omega
  · intro q; exact h.2.1 p t q ht
theorem thr_step {n : Nat} {V pm sp : Nat → Nat} (h : PMI n V pm) (hv : ∀ i, i < n → V i ≤ 200) (hd : ∀ i j, i < n → j < n → V i = V j → i = j) {t : Nat} (ht : t < n) : ∀ i, i < n → st (thr V sp (V (pm t))) (pm t) (sp (pm t)) i = thr V sp (xat n V pm (t + 1)) i := by
  intro i hi
  obtain ⟨p, hp, rfl⟩ := h.2.2 i hi
  have hlt : V (pm p) < xat n V pm (t + 1) ↔ p ≤ t := by
    unfold xat
    by_cases c : t + 1 < n
    · rw [if_pos c, h.lt_iff hp c]; omega
    · rw [if_neg c]
      have := hv (pm p) hi
      omega
  by_cases e : pm p = pm t
  · rw [e, st_s]
    have ept : p = t := by
      rcases Nat.lt_trichotomy p t with q | q | q
      · have := h.2.1 p t q ht; rw [e] at this; omega
      · exact q
      · have := h.2.1 t p q hp; rw [e] at this; omega
    unfold thr
    rw [← e, if_pos (hlt.mpr (by omega))]
  · rw [st_n e]
    unfold thr
    have hne : p ≠ t := fun q => e (by rw [q])
    by_cases c : p < t
    · rw [if_pos ((h.lt_iff hp ht).mpr c), if_pos (hlt.mpr (by omega))]
    · rw [if_neg (fun q => c ((h.lt_iff hp ht).mp q)), if_neg (fun q => by have := hlt.mp q; omega)]
theorem sp_choose16 {n r sum : Nat} {V T pm : Nat → Nat} {kv kn kt ks : Nat → Int32} {fw : Nat → Nat → Int32} {K : Int32 → (Nat → Int32) → (Nat → Nat → Int32) → Prop} {X : (Nat → Nat → Int32) → Prop} (hKN : KN n V T (nI n) kv kt) (hd : ∀ i j, i < n → j < n → V i = V j → i = j) (hpm : PMI n V pm) (hs : sum ≤ 999) (hr : r ≤ 20) (hfw : FWI fw)
    (hX : ∀ fw2, fw2 0 = fw 0 → (∀ j, j < n → RowOK 1000 n V (thr V (spN kn ks T r) (V (pm j))) sum (fw2 j)) → X fw2) :
    ∀ (m j : Nat) (fw2 : Nat → Nat → Int32), j + m = max n 1 → 1 ≤ j → fw2 0 = fw 0 → (∀ i, i < j → i < n → RowOK 1000 n V (thr V (spN kn ks T r) (V (pm i))) sum (fw2 i)) → wp_X4_choose_16 (nI sum) (nI r) (nI n) pm kv kn kt ks K X (m + 1) (nI j) fw2 := by
  obtain ⟨-, hn, hv, ht⟩ := hKN
  have hsp : ∀ i, i < n → spN kn ks T r i ≤ 20 := fun i hi => Nat.le_trans spN_le (ht i hi).2
  intro m
  induction m with
  | zero =>
    intro j fw2 hj hj1 h1 h2
    unfold wp_X4_choose_16
    exact ⟨fun _ => hX fw2 h1 (fun i hi => h2 i (by omega) hi), fun q => absurd (nI_le (by omega) (by omega)) q⟩
  | succ m ih =>
    intro j fw2 hj hj1 h1 h2
    obtain ⟨t, rfl⟩ : ∃ t, j = t + 1 := ⟨j - 1, by omega⟩
    unfold wp_X4_choose_16
    have htn : t + 1 < n := by omega
    have hp := hpm.1 t (by omega)
    have hin : vp_in (nI t) 6 := vp_in_nI (by omega) (by omega)
    have hin1 : vp_in (nI (t + 1)) 6 := vp_in_nI (by omega) (by omega)
    obtain ⟨v1, v2, v3⟩ := hv _ hp
    rw [nI_p1, nI_clamp (show t < 2 ^ 31 by omega), nI_clamp (show t + 1 < 2 ^ 31 by omega), nI_1, nI_1, nI_clamp (show sum + 1 < 2 ^ 31 by omega)]
    refine ⟨fun q => absurd q (nI_ge (by omega) (by omega)), fun _ => ⟨hin, hin1, ?_, hin, by omega, hin1, ?_⟩⟩
    · refine ⟨by decide, by decide, nI_pos (by omega), ?_, ?_⟩
      · rw [nI_clamp (show sum + 1 < 2 ^ 31 by omega), show (0 : Int32).toNatClampNeg = 0 from rfl]; omega
      · rw [nI_clamp (show sum + 1 < 2 ^ 31 by omega), show (0 : Int32).toNatClampNeg = 0 from rfl]; omega
    · refine sp_spare (ht _ hp).1 (by have := (ht _ hp).2; omega) (by omega) ?_
      rw [v1]
      refine sp_wAddCoins (sp := thr V (spN kn ks T r) (V (pm t))) hs hn hp v2 v3 (hsp _ hp) (fun i hi => Nat.le_trans thr_le (hsp i hi)) ?_ (fun fw3 h3 h4 => ?_)
      · rw [va_up_self]
        refine RowOK_congr (fun i hi => ?_) (fun s hs2 => ?_) (h2 t (by omega) (by omega))
        · by_cases e : i = pm t
          · subst e; rw [st_s, thr_self]
          · rw [st_n e]
        · rw [show (0 : Int32).toNatClampNeg = 0 from rfl, pk_cpy_in (Nat.zero_le _) (by omega)]
          congr 1; omega
      · refine ih (t + 2) fw3 (by omega) (by omega) ?_ (fun i hi hin2 => ?_)
        · rw [h3 0 (by omega), va_up_ne _ _ (by omega)]; exact h1
        · by_cases e : i = t + 1
          · subst e
            refine RowOK_congr (fun i hi => ?_) (fun s _ => rfl) h4
            rw [thr_step hpm (fun i hi => (hv i hi).2.2) hd (by omega) i hi]
            unfold xat
            rw [if_pos htn]
          · rw [h3 i (by omega), va_up_ne _ _ (by omega)]
            exact h2 i (by omega) hin2
