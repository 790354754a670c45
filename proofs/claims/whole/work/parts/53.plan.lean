/-! the class's plan -/
theorem Rc_mono {n : Nat} {V sp sp2 : Nat → Nat} {s : Nat} (h : ∀ i, i < n → sp i ≤ sp2 i) : Rc n V sp s → Rc n V sp2 s := fun ⟨c, h1, h2⟩ => ⟨c, fun i hi => Nat.le_trans (h1 i hi) (h i hi), h2⟩
theorem spN_mono {kn ks : Nat → Int32} {T : Nat → Nat} {r i : Nat} : spN kn ks T r i ≤ spN kn ks T 0 i := by
  unfold spN
  by_cases h : gvs kn ks i = true
  · rw [if_pos h, if_pos h]; omega
  · rw [if_neg h, if_neg h]; omega
def SPsel (n m : Nat) (V T : Nat → Nat) (kn ks : Nat → Int32) (s : Nat) (f : Nat → Nat) : Prop := ∃ r, r ≤ 20 ∧ (∀ i, i < n → f i = spN kn ks T r i) ∧ (m = 0 → r = 0) ∧ (m = 1 → (∀ i, i < n → gvs kn ks i = false) ∨ ((∀ i, i < n → gvs kn ks i = true → r ≤ T i) ∧ ∀ r2, r < r2 → (∀ i, i < n → gvs kn ks i = true → r2 ≤ T i) → ¬ Rc n V (spN kn ks T r2) s))
theorem SPsel.un {n m s : Nat} {V T f g : Nat → Nat} {kn ks : Nat → Int32} (hm : m ≤ 1) (h1 : SPsel n m V T kn ks s f) (h2 : SPsel n m V T kn ks s g) (r1 : Rc n V f s) (r2 : Rc n V g s) : ∀ i, i < n → f i = g i := by
  obtain ⟨r, -, a1, a2, a3⟩ := h1
  obtain ⟨q, -, b1, b2, b3⟩ := h2
  rcases (show m = 0 ∨ m = 1 by omega) with e | e
  · intro i hi
    rw [a1 i hi, b1 i hi, a2 e, b2 e]
  · have zero : (∀ i, i < n → gvs kn ks i = false) → ∀ i, i < n → f i = g i := fun hz i hi => by
      rw [a1 i hi, b1 i hi]; unfold spN; rw [hz i hi]; rfl
    rcases a3 e with hz | ⟨a4, a5⟩
    · exact zero hz
    · rcases b3 e with hz | ⟨b4, b5⟩
      · exact zero hz
      · have e2 : r = q := by
          rcases Nat.lt_trichotomy r q with l | l | l
          · exact absurd ((Rc_congr b1).mp r2) (a5 q l b4)
          · exact l
          · exact absurd ((Rc_congr a1).mp r1) (b5 r l a4)
        intro i hi
        rw [a1 i hi, b1 i hi, e2]
theorem sp_fewestInTube {n : Nat} {V T : Nat → Nat} {kv kn kt ks : Nat → Int32} {K : Int32 → Prop} (hKN : KN n V T (nI n) kv kt)
    (h0 : (∀ i, i < n → gvs kn ks i = false) → K 0) (h1 : ∀ r k, k < n → gvs kn ks k = true → T k = r → (∀ i, i < n → gvs kn ks i = true → r ≤ T i) → K (nI r)) : wp_X3_fewestInTube (nI n) kn kt ks K := by
  obtain ⟨-, hn, hv, ht⟩ := hKN
  unfold wp_X3_fewestInTube
  have lp : ∀ (m k : Nat) (x : Int32), k + m = n → ((x = -1 ∧ ∀ i, i < k → gvs kn ks i = false) ∨ (∃ i0, i0 < k ∧ gvs kn ks i0 = true ∧ x = nI (T i0) ∧ ∀ i, i < k → gvs kn ks i = true → T i0 ≤ T i)) → wp_X3_fewestInTube_4 (nI n) kn kt ks K (fun x => K (if (0 : Int32) < x then x else 0)) (m + 1) x (nI k) := by
    intro m
    induction m with
    | zero =>
      intro k x hk hinv
      unfold wp_X3_fewestInTube_4
      refine ⟨fun _ => ?_, fun q => absurd (nI_le (by omega) (by omega)) q⟩
      rcases hinv with ⟨rfl, hz⟩ | ⟨i0, a, b, rfl, d⟩
      · rw [if_neg (by decide)]
        exact h0 (fun i hi => hz i (by omega))
      · have hb := (ht i0 (by omega)).2
        have e : (if (0 : Int32) < nI (T i0) then nI (T i0) else 0) = nI (T i0) := by
          by_cases q : 0 < T i0
          · rw [if_pos ((nI_0lt (by omega)).mpr q)]
          · rw [show T i0 = 0 by omega]; rfl
        rw [e]
        exact h1 _ i0 (by omega) b rfl (fun i hi hg => d i (by omega) hg)
    | succ m ih =>
      intro k x hk hinv
      unfold wp_X3_fewestInTube_4
      refine ⟨fun q => absurd q (nI_ge (by omega) (by omega)), fun _ => ⟨vp_in_nI (by omega) (by omega), ?_⟩⟩
      obtain ⟨t1, t2⟩ := ht k (by omega)
      rw [nI_clamp (by omega), nI_1, t1]
      refine sp_gives ⟨fun q => ih (k + 1) x (by omega) ?_, fun q => ⟨fun q2 => ih (k + 1) _ (by omega) ?_, fun q2 => ⟨fun q3 => ih (k + 1) _ (by omega) ?_, fun q3 => ih (k + 1) _ (by omega) ?_⟩⟩⟩
      · rw [b2_0] at q
        rcases hinv with ⟨e, hz⟩ | ⟨i0, a, b, e, d⟩
        · refine Or.inl ⟨e, fun i hi => ?_⟩
          by_cases e2 : i = k
          · subst e2; exact q
          · exact hz i (by omega)
        · refine Or.inr ⟨i0, by omega, b, e, fun i hi hg => ?_⟩
          by_cases e2 : i = k
          · subst e2; rw [q] at hg; cases hg
          · exact d i (by omega) hg
      · rw [b2_n0] at q
        rcases hinv with ⟨e, hz⟩ | ⟨i0, a, b, e, d⟩
        · refine Or.inr ⟨k, by omega, q, rfl, fun i hi hg => ?_⟩
          by_cases e2 : i = k
          · subst e2; exact Nat.le_refl _
          · rw [hz i (by omega)] at hg; cases hg
        · rw [e] at q2
          have hb := (ht i0 (by omega)).2
          exact absurd (show (-1 : Int32) < 0 by decide) (by rw [← q2]; exact nI_pos (by omega))
      · rcases hinv with ⟨e, hz⟩ | ⟨i0, a, b, e, d⟩
        · exact absurd e q2
        · rw [e] at q3
          have hb := (ht i0 (by omega)).2
          have hle := (nI_leI (by omega) (by omega)).mp q3
          refine Or.inr ⟨i0, by omega, b, e, fun i hi hg => ?_⟩
          by_cases e2 : i = k
          · subst e2; exact hle
          · exact d i (by omega) hg
      · rw [b2_n0] at q
        rcases hinv with ⟨e, hz⟩ | ⟨i0, a, b, e, d⟩
        · exact absurd e q2
        · rw [e] at q3
          have hb := (ht i0 (by omega)).2
          have hlt := (nI_ltI (by omega) (by omega)).mp (nle_lt q3)
          refine Or.inr ⟨k, by omega, q, rfl, fun i hi hg => ?_⟩
          by_cases e2 : i = k
          · subst e2; exact Nat.le_refl _
          · have := d i (by omega) hg; omega
  exact ⟨n + 1, lp n 0 (-1) (by omega) (Or.inl ⟨rfl, fun i hi => by omega⟩)⟩
theorem sp_plan {n m s : Nat} {V R T pm : Nat → Nat} {kv kn kr kt kb ks kg kw : Nat → Int32} {wd : Nat → Nat → Int64} {fw : Nat → Nat → Int32} {K : Int32 → (Nat → Int32) → (Nat → Nat → Int64) → (Nat → Nat → Int32) → Prop} (hK : KI n V R T (nI n) kv kn kr kt kb ks kg) (hpm : PMI n V pm) (hfw : FWI fw) (hm : m ≤ 1) (hs : s ≤ 999)
    (h0 : ¬ Rc n V (spN kn ks T 0) s → ∀ kw2 wd2 fw2, FWI fw2 → K 0 kw2 wd2 fw2)
    (h1 : ∀ kw2 wd2 fw2 f w, Rc n V (spN kn ks T 0) s → FWI fw2 → SPsel n m V T kn ks s f → Rc n V f s → IsW n V kn f s w → (∀ k, k < n → kw2 k = nI (w k)) → K 1 kw2 wd2 fw2) : wp_X5_plan (nI s) (nI n) pm kv kn kt ks kw wd fw (nI m) K := by
  have hKN := hK.toKN
  obtain ⟨-, hn, hv, ht⟩ := id hKN
  have hd := hK.2.2.2.1
  unfold wp_X5_plan
  refine ⟨fun q => absurd q (nI_pos (by omega)), fun _ => ⟨fun _ => ?_, fun q => absurd (nI_le (b := 999) hs (by omega)) q⟩⟩
  refine jn1 (fun x => ∃ r0, r0 ≤ 20 ∧ x = nI r0 ∧ (m = 0 → r0 = 0) ∧ (m = 1 → ((∀ i, i < n → gvs kn ks i = false) ∧ r0 = 0) ∨ ((∀ i, i < n → gvs kn ks i = true → r0 ≤ T i) ∧ ∃ k, k < n ∧ gvs kn ks k = true ∧ T k = r0))) (fun x hx => ?_) (fun Z hZ => ⟨fun q => hZ _ ⟨0, by omega, rfl, fun _ => rfl, fun e => absurd (by rw [e]; rfl) q⟩, fun q => ?_⟩)
  rotate_left
  · have em : m = 1 := (nI_eq (b := 1) (by omega) (by omega)).mp q
    refine sp_fewestInTube hKN (fun hz => hZ _ ⟨0, by omega, rfl, fun e => by omega, fun _ => Or.inl ⟨hz, rfl⟩⟩) (fun r k hk hg e hall => hZ _ ⟨r, by rw [← e]; exact (ht k hk).2, rfl, fun e => by omega, fun _ => Or.inr ⟨hall, k, hk, hg, e⟩⟩)
  obtain ⟨r0, hr0, rfl, hm0, hm1⟩ := hx
  refine sp_collect (j := 0) (r := r0) hKN hr0 (fun wd2 _ hw => ⟨r0 + 1, ?_⟩)
  have lp : ∀ (r : Nat) (wd3 : Nat → Nat → Int64), r ≤ r0 → (∀ s, s < 1024 → (bw (wd3 0) s = true ↔ Rc n V (spN kn ks T r) s)) → (∀ r2, r < r2 → r2 ≤ r0 → ¬ Rc n V (spN kn ks T r2) s) → wp_X5_plan_45 (nI s) (nI n) kv kn ks K (fun (x2_5 : Int32) (wd_5 : Nat → Nat → Int64) => wp_X2_has 0 (nI s) wd_5 (fun (r_6 : Int32) => ((r_6 = 0 → K (0 : Int32) kw wd_5 fw) ∧ (¬ r_6 = 0 → wp_X4_choose (nI s) x2_5 (nI n) pm kv kn kt ks kw fw (fun (r_8 : Int32) (kw_8 : Nat → Int32) (fw_8 : Nat → Nat → Int32) => ((r_8 = 0 → K (0 : Int32) kw_8 wd_5 fw_8) ∧ (¬ r_8 = 0 → K (1 : Int32) kw_8 wd_5 fw_8))))))) (r + 1) (nI r) wd3 := by
    intro r
    have fin : ∀ wd3 : Nat → Nat → Int64, r ≤ r0 → (∀ s, s < 1024 → (bw (wd3 0) s = true ↔ Rc n V (spN kn ks T r) s)) → (∀ r2, r < r2 → r2 ≤ r0 → ¬ Rc n V (spN kn ks T r2) s) → (r = 0 ∨ Rc n V (spN kn ks T r) s) → wp_X2_has 0 (nI s) wd3 (fun (r_6 : Int32) => ((r_6 = 0 → K (0 : Int32) kw wd3 fw) ∧ (¬ r_6 = 0 → wp_X4_choose (nI s) (nI r) (nI n) pm kv kn kt ks kw fw (fun (r_8 : Int32) (kw_8 : Nat → Int32) (fw_8 : Nat → Nat → Int32) => ((r_8 = 0 → K (0 : Int32) kw_8 wd3 fw_8) ∧ (¬ r_8 = 0 → K (1 : Int32) kw_8 wd3 fw_8)))))) := by
      intro wd3 hr hw3 hmax hor
      refine sp_has hs ⟨fun q => ?_, fun q => ?_⟩
      · rw [b2_0] at q
        have hno : ¬ Rc n V (spN kn ks T r) s := fun hh => by rw [(hw3 s (by omega)).mpr hh] at q; cases q
        rcases hor with e | e
        · subst e; exact h0 hno kw wd3 fw hfw
        · exact absurd e hno
      · rw [b2_n0] at q
        have hre := (hw3 s (by omega)).mp q
        refine sp_choose hKN hd hpm hs (by omega) hfw hre (fun kw2 fw2 w hf hW hkw => ⟨fun q => absurd q (by decide), fun _ => ?_⟩)
        refine h1 kw2 wd3 fw2 (spN kn ks T r) w (Rc_mono (fun i _ => spN_mono) hre) hf ⟨r, by omega, fun _ _ => rfl, fun e => by have := hm0 e; omega, fun e => ?_⟩ hre hW hkw
        rcases hm1 e with ⟨hz, -⟩ | ⟨hall, k, hk, hg, ek⟩
        · exact Or.inl hz
        · refine Or.inr ⟨fun i hi hgi => Nat.le_trans hr (hall i hi hgi), fun r2 hlt hle => hmax r2 hlt ?_⟩
          have := hle k hk hg
          omega
    induction r with
    | zero =>
      intro wd3 hr hw3 hmax
      unfold wp_X5_plan_45
      exact ⟨fun _ => fin wd3 hr hw3 hmax (Or.inl rfl), fun q => absurd (by decide) q⟩
    | succ r ih =>
      intro wd3 hr hw3 hmax
      unfold wp_X5_plan_45
      refine ⟨fun q => absurd q (nI_nle (by omega) (by omega)), fun _ => ?_⟩
      refine sp_has hs ⟨fun q => fin wd3 hr hw3 hmax (Or.inr ((hw3 s (by omega)).mp (b2_n0.mp q))), fun q => ?_⟩
      rw [b2_0] at q
      have hno : ¬ Rc n V (spN kn ks T (r + 1)) s := fun hh => by rw [(hw3 s (by omega)).mpr hh] at q; cases q
      have hT : ∀ i, i < n → gvs kn ks i = true → r + 1 ≤ T i := by
        intro i hi hg
        rcases (show m = 0 ∨ m = 1 by omega) with e | e
        · have := hm0 e; omega
        · rcases hm1 e with ⟨hz, -⟩ | ⟨hall, -⟩
          · rw [hz i hi] at hg; cases hg
          · have := hall i hi hg; omega
      rw [nI_m1, nI_p1]
      refine sp_oneEach hKN hw3 (fun wd4 _ hw4 => ?_)
      have hwr : ∀ s, s < 1024 → (bw (wd4 0) s = true ↔ Rc n V (spN kn ks T r) s) := fun s2 hs2 => (hw4 s2 hs2).trans (Rc_congr (fun i hi => by
        unfold spN
        by_cases hg : gvs kn ks i = true
        · have := hT i hi hg
          rw [if_pos hg, if_pos hg, if_pos hg]; omega
        · rw [if_neg hg, if_neg hg, if_neg hg]))
      have hmax2 : ∀ r2, r < r2 → r2 ≤ r0 → ¬ Rc n V (spN kn ks T r2) s := fun r2 hlt hle => by
        by_cases e : r2 = r + 1
        · subst e; exact hno
        · exact hmax r2 (by omega) hle
      exact ih (fun wd3 hr hw3 hmax hor => by
        refine sp_has hs ⟨fun q => ?_, fun q => ?_⟩
        · rw [b2_0] at q
          have hno : ¬ Rc n V (spN kn ks T r) s := fun hh => by rw [(hw3 s (by omega)).mpr hh] at q; cases q
          rcases hor with e | e
          · subst e; exact h0 hno kw wd3 fw hfw
          · exact absurd e hno
        · rw [b2_n0] at q
          have hre := (hw3 s (by omega)).mp q
          refine sp_choose hKN hd hpm hs (by omega) hfw hre (fun kw2 fw2 w hf hW hkw => ⟨fun q => absurd q (by decide), fun _ => ?_⟩)
          refine h1 kw2 wd3 fw2 (spN kn ks T r) w (Rc_mono (fun i _ => spN_mono) hre) hf ⟨r, by omega, fun _ _ => rfl, fun e => by have := hm0 e; omega, fun e => ?_⟩ hre hW hkw
          rcases hm1 e with ⟨hz, -⟩ | ⟨hall, k, hk, hg, ek⟩
          · exact Or.inl hz
          · refine Or.inr ⟨fun i hi hgi => Nat.le_trans hr (hall i hi hgi), fun r2 hlt hle => hmax r2 hlt ?_⟩
            have := hle k hk hg
            omega) wd4 (by omega) hwr hmax2
  exact lp r0 wd2 (Nat.le_refl _) hw (fun r2 h1 h2 => by omega)
theorem sp_plan_out {x n1 md : Int32} {pm : Nat → Nat} {kv kn kt ks kw : Nat → Int32} {wd : Nat → Nat → Int64} {fw : Nat → Nat → Int32} {K : Int32 → (Nat → Int32) → (Nat → Nat → Int64) → (Nat → Nat → Int32) → Prop} (hx : x < 0 ∨ ¬ x ≤ 999) (h : K 0 kw wd fw) : wp_X5_plan x n1 pm kv kn kt ks kw wd fw md K := by
  unfold wp_X5_plan
  refine ⟨fun _ => h, fun q => ⟨fun q2 => ?_, fun _ => h⟩⟩
  rcases hx with hx | hx
  · exact absurd hx q
  · exact absurd q2 hx
