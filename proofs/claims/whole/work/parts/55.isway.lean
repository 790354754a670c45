/-! the reference's way: it is THE WAY too -/
def yat (V rk : Nat → Nat) (i : Nat) : Nat := if i = 0 then 201 else V (rk (i - 1))
theorem yat_s {V rk : Nat → Nat} {i : Nat} : yat V rk (i + 1) = V (rk i) := by simp [yat]
theorem RKI.lt_iff {n rs : Nat} {V rk : Nat → Nat} {mno : Nat → Int32} (h : RKI n V mno rs rk) {p t : Nat} (hp : p < rs) (ht : t < rs) : V (rk p) < V (rk t) ↔ t < p := by
  constructor
  · intro q
    rcases Nat.lt_trichotomy p t with l | l | l
    · have := h.2.2.1 p t l ht; omega
    · subst l; omega
    · exact l
  · intro q; exact h.2.2.1 t p q hp
theorem thr_stepR {n rs : Nat} {V rk sp : Nat → Nat} {mno : Nat → Int32} (h : RKI n V mno rs rk) (hv : ∀ i, i < n → V i ≤ 200) (hz : ∀ k, k < n → ¬ mno k = 0 → sp k = 0) {i : Nat} (hi : i < rs) : ∀ k, k < n → st (thr V sp (V (rk i))) (rk i) (sp (rk i)) k = thr V sp (yat V rk i) k := by
  intro k hk
  have hlt : V (rk i) < yat V rk i := by
    unfold yat
    by_cases e : i = 0
    · rw [if_pos e]; have := hv (rk i) (h.2.1 i hi).1; omega
    · rw [if_neg e]; exact h.2.2.1 (i - 1) i (by omega) hi
  by_cases e : k = rk i
  · subst e; rw [st_s]; unfold thr; rw [if_pos hlt]
  · rw [st_n e]
    unfold thr
    by_cases c : V k < V (rk i)
    · rw [if_pos c, if_pos (by omega)]
    · rw [if_neg c]
      by_cases hc : mno k = 0
      · obtain ⟨p, hp, rfl⟩ := h.2.2.2 k hk hc
        have hpi : p ≠ i := fun q => e (by rw [q])
        have hnlt : ¬ i < p := fun q => c ((h.lt_iff hp hi).mpr q)
        have : ¬ V (rk p) < yat V rk i := by
          unfold yat
          rw [if_neg (by omega)]
          intro q
          have := (h.lt_iff hp (show i - 1 < rs by omega)).mp q
          omega
        rw [if_neg this]
      · rw [hz k hk hc]
        by_cases q : V k < yat V rk i
        · rw [if_pos q]
        · rw [if_neg q]
theorem thr_last {n rs : Nat} {V rk sp : Nat → Nat} {mno : Nat → Int32} (h : RKI n V mno rs rk) (hz : ∀ k, k < n → ¬ mno k = 0 → sp k = 0) : ∀ k, k < n → thr V sp (yat V rk rs) k = 0 := by
  intro k hk
  unfold thr
  by_cases hc : mno k = 0
  · obtain ⟨p, hp, rfl⟩ := h.2.2.2 k hk hc
    unfold yat
    rw [if_neg (show ¬ rs = 0 by omega)]
    rw [if_neg (fun q => by have := (h.lt_iff hp (show rs - 1 < rs by omega)).mp q; omega)]
  · rw [hz k hk hc]
    by_cases q : V k < yat V rk rs
    · rw [if_pos q]
    · rw [if_neg q]
theorem sp_w94 {n r rs sum : Nat} {V T rk : Nat → Nat} {mva mno mtu mst mrk : Nat → Int32} {K : Int32 → Int32 → (Nat → Int32) → (Nat → Int32) → (Nat → Int32) → Prop} {X : (Nat → Int32) → Prop} (hKN : KN n V T (nI n) mva mtu) (hR : RKI n V mno rs rk) (hrk : ∀ i, i < rs → mrk i = nI (rk i)) (hr : r ≤ 20) (hs : sum ≤ 999)
    (hX : ∀ mfe, (∀ j, j ≤ rs → RowOK 1000000 n V (thr V (spN mno mst T r) (yat V rk j)) sum (fun s => mfe (1000 * j + s))) → X mfe) :
    ∀ (t : Nat) (mfe : Nat → Int32), t ≤ rs → (∀ j, t ≤ j → j ≤ rs → RowOK 1000000 n V (thr V (spN mno mst T r) (yat V rk j)) sum (fun s => mfe (1000 * j + s))) → wp_X6_isWay_94 (nI sum) (nI r) mva mtu mst mrk K X (t + 1) (nI t - 1) mfe := by
  obtain ⟨-, hn, hv, ht⟩ := id hKN
  have hsp : ∀ i, i < n → spN mno mst T r i ≤ 20 := fun i hi => Nat.le_trans spN_le (ht i hi).2
  have hz : ∀ k, k < n → ¬ mno k = 0 → spN mno mst T r k = 0 := fun k hk hc => by unfold spN; rw [if_neg (by simp [gvs, hc])]
  intro t
  induction t with
  | zero =>
    intro mfe h1 h2
    unfold wp_X6_isWay_94
    exact ⟨fun _ => hX mfe (fun j hj => h2 j (by omega) hj), fun q => absurd nI_n1 q⟩
  | succ t ih =>
    intro mfe h1 h2
    unfold wp_X6_isWay_94
    obtain ⟨a1, a2⟩ := hR.2.1 t (by omega)
    have hrn := hR.1
    rw [nI_p1, nI_clamp (show t < 2 ^ 31 by omega), hrk t (by omega)]
    refine ⟨fun q => absurd q (nI_pos (by omega)), fun _ => ⟨vp_in_nI (by omega) (by omega), ?_⟩⟩
    have hrow := h2 (t + 1) (by omega) h1
    rw [yat_s] at hrow
    refine sp_w109 (mno := mno) (sp := thr V (spN mno mst T r) (V (rk t))) hKN hr a1 a2 (by omega) hs thr_self (fun i hi => Nat.le_trans thr_le (hsp i hi)) hrow (fun mfe2 e1 e2 => ?_)
    rw [nI_m1]
    refine ih mfe2 (by omega) (fun j hj hj2 => ?_)
    by_cases e : j = t
    · subst e
      exact RowOK_congr (thr_stepR hR (fun i hi => (hv i hi).2.2) hz (by omega)) (fun _ _ => rfl) e2
    · exact RowOK_congr (fun _ _ => rfl) (fun s hs => e1 _ (by omega)) (h2 j (by omega) hj2)
theorem sp_w51 {x2 : Int32} {rs sum : Nat} {mfe : Nat → Int32} {K : Int32 → Int32 → (Nat → Int32) → (Nat → Int32) → (Nat → Int32) → Prop} {X : (Nat → Int32) → Prop} (hrs : rs ≤ 6) (hs : sum ≤ 999) (hX : ∀ mfe2, (∀ s, s ≤ sum → mfe2 (1000 * rs + s) = if s = 0 then 0 else 1000000) → X mfe2) : ∃ f, wp_X6_isWay_51 (nI sum) x2 (nI rs) K X f 0 mfe := by
  refine ⟨sum + 1 + 1, ?_⟩
  have lp : ∀ (m t : Nat) (mfe2 : Nat → Int32), t + m = sum + 1 → (∀ s, s < t → mfe2 (1000 * rs + s) = if s = 0 then 0 else 1000000) → wp_X6_isWay_51 (nI sum) x2 (nI rs) K X (m + 1) (nI t) mfe2 := by
    intro m
    induction m with
    | zero =>
      intro t mfe2 ht h2
      unfold wp_X6_isWay_51
      exact ⟨fun _ => hX mfe2 (fun s hs => h2 s (by omega)), fun q => absurd (nI_lt (by omega) (by omega)) q⟩
    | succ m ih =>
      intro t mfe2 ht h2
      unfold wp_X6_isWay_51
      rw [show (1000 : Int32) = nI 1000 from rfl, pk_mul, nI_add, nI_clamp (by omega), nI_1]
      refine ⟨fun q => absurd q (nI_nlt (by omega) (by omega)), fun _ => ⟨fun q => ⟨vp_in_nI (by omega) (by omega), ih (t + 1) _ (by omega) (fun s hs => ?_)⟩, fun q => ⟨vp_in_nI (by omega) (by omega), ih (t + 1) _ (by omega) (fun s hs => ?_)⟩⟩⟩
      · have q0 : ¬ t = 0 := fun e => q ((nI_z (by omega)).mpr e)
        by_cases e : s = t
        · subst e; rw [pk_us, if_neg q0]
        · rw [pk_un (by omega)]; exact h2 s (by omega)
      · have q0 : t = 0 := (nI_z (by omega)).mp q
        by_cases e : s = t
        · subst e; rw [pk_us, if_pos q0]
        · rw [pk_un (by omega)]; exact h2 s (by omega)
  exact lp (sum + 1) 0 mfe (by omega) (fun s hs => by omega)
theorem sp_w226 {x1 x2 : Int32} {mus : Nat → Int32} {K : Int32 → Int32 → (Nat → Int32) → (Nat → Int32) → (Nat → Int32) → Prop} {X : (Nat → Int32) → Prop} (hX : ∀ mus2, (∀ k, k < 6 → mus2 k = 0) → X mus2) : ∃ f, wp_X6_isWay_226 x1 x2 K X f 0 mus := by
  refine ⟨6 + 1, ?_⟩
  have lp : ∀ (m t : Nat) (mus2 : Nat → Int32), t + m = 6 → (∀ s, s < t → mus2 s = 0) → wp_X6_isWay_226 x1 x2 K X (m + 1) (nI t) mus2 := by
    intro m
    induction m with
    | zero =>
      intro t mus2 ht h2
      unfold wp_X6_isWay_226
      exact ⟨fun _ => hX mus2 (fun s hs => h2 s (by omega)), fun q => absurd (nI_le (a := 6) (by omega) (by omega)) q⟩
    | succ m ih =>
      intro t mus2 ht h2
      unfold wp_X6_isWay_226
      rw [nI_clamp (by omega), nI_1]
      refine ⟨fun q => absurd q (nI_ge (b := 6) (by omega) (by omega)), fun _ => ⟨vp_in_nI (by omega) (by omega), ih (t + 1) _ (by omega) (fun s hs => ?_)⟩⟩
      by_cases e : s = t
      · subst e; rw [pk_us]
      · rw [pk_un e]; exact h2 s (by omega)
  exact lp 6 0 mus (by omega) (fun s hs => by omega)
theorem sp_w290 {x2 : Int32} {n i k b L sum : Nat} {V sp : Nat → Nat} {mva mfe : Nat → Int32} {K : Int32 → Int32 → (Nat → Int32) → (Nat → Int32) → (Nat → Int32) → Prop} {X : Int32 → Prop} (hn : n ≤ 6) (hk : k < n) (hv : mva k = nI (V k) ∧ 1 ≤ V k ∧ V k ≤ 200) (hi : i ≤ 5) (hs : sum ≤ 999) (hL : L ≤ sum) (hb : b ≤ 20) (h0 : sp k = 0) (hsp : ∀ i, i < n → sp i ≤ 20) (hrow : RowOK 1000000 n V sp sum (fun s => mfe (1000 * (i + 1) + s))) (hrow2 : RowOK 1000000 n V (st sp k b) sum (fun s => mfe (1000 * i + s))) (hre : ∃ m, Cnt n V (st sp k b) L m)
    (hX : ∀ t, ChOK n V sp k b L t → X (nI t)) : ∃ f, wp_X6_isWay_290 x2 (nI L) (nI i) (nI k) mva mfe K X f (nI b) := by
  obtain ⟨v1, v2, v3⟩ := hv
  have bd : ∀ {s m : Nat}, Cnt n V sp s m → m ≤ 120 := fun hc => by
    have := Cnt_le hc hsp
    have : n * 20 ≤ 6 * 20 := Nat.mul_le_mul_right 20 hn
    omega
  obtain ⟨M, hM, hrM⟩ : ∃ M, IsMn n V (st sp k b) L M ∧ mfe (1000 * i + L) = nI M := by
    rcases hrow2 L hL with h | ⟨h, -⟩
    · exact h
    · obtain ⟨m, hm⟩ := hre; exact absurd hm (h m)
  have hMb : M ≤ 140 := by
    obtain ⟨t, t1, t2, t3, t4⟩ := (Cnt_bump hk h0).mp hM.1
    have := bd t4
    omega
  refine ⟨b + 1, ?_⟩
  have lp : ∀ t, t ≤ b → (∀ t2, t < t2 → t2 ≤ b → t2 * V k ≤ L → t2 ≤ M → ¬ Cnt n V sp (L - t2 * V k) (M - t2)) → wp_X6_isWay_290 x2 (nI L) (nI i) (nI k) mva mfe K X (t + 1) (nI t) := by
    intro t
    induction t with
    | zero =>
      intro ht hno
      unfold wp_X6_isWay_290
      rw [nI_clamp (show k < 2 ^ 31 by omega), v1, pk_mul, Nat.zero_mul]
      refine ⟨vp_in_nI (by omega) (by omega), fun q => absurd q (nI_pos (by omega)), fun _ => ⟨vp_in_nI (by omega) (by omega), ?_⟩⟩
      have eI : ((1000 : Int32) * (nI i + (1 : Int32)) + nI L) - nI 0 = nI (1000 * (i + 1) + L) := by
        rw [nI_1, show (1000 : Int32) = nI 1000 from rfl, pk_mul, nI_add, pk_sub (by omega)]
        congr 1
      have eJ : (1000 : Int32) * nI i + nI L = nI (1000 * i + L) := by
        rw [show (1000 : Int32) = nI 1000 from rfl, pk_mul, nI_add]
      rw [eI, eJ, nI_clamp (show 1000 * (i + 1) + L < 2 ^ 31 by omega), nI_clamp (show 1000 * i + L < 2 ^ 31 by omega), hrM]
      refine ⟨vp_in_nI (by omega) (by omega), vp_in_nI (by omega) (by omega), ?_⟩
      obtain ⟨t, t1, t2, t3, t4⟩ := (Cnt_bump hk h0).mp hM.1
      have et : t = 0 := by
        rcases Nat.eq_zero_or_pos t with e | e
        · exact e
        · exact absurd t4 (hno t e t1 t2 t3)
      subst et
      rw [Nat.zero_mul] at t4
      rcases hrow L hL with ⟨m0, g1, g2⟩ | ⟨g1, g2⟩
      · have g2' : mfe (1000 * (i + 1) + L) = nI m0 := g2
        rw [g2', nI_add]
        have e1 := g1.2 _ t4
        have e2 := hM.2 m0 ((Cnt_bump hk h0).mpr ⟨0, by omega, by omega, by omega, by rw [Nat.zero_mul]; exact g1.1⟩)
        have e : m0 = M := by omega
        subst e
        refine ⟨fun _ => hX 0 ⟨by omega, by omega, m0, hM, by omega, by rw [Nat.zero_mul]; exact t4, hno⟩, fun q => absurd (by rw [Nat.zero_add]) q⟩
      · exact absurd t4 (g1 _)
    | succ t ih =>
      intro ht hno
      unfold wp_X6_isWay_290
      rw [nI_clamp (show k < 2 ^ 31 by omega), v1, pk_mul, nI_p1]
      have hb2 : (t + 1) * V k ≤ 20 * 200 := Nat.mul_le_mul (by omega) v3
      refine ⟨vp_in_nI (by omega) (by omega), fun q => ih (by omega) (fun t2 h1 h2 h3 h4 => ?_), fun q => ⟨vp_in_nI (by omega) (by omega), ?_⟩⟩
      · by_cases e : t2 = t + 1
        · subst e
          have := (nI_ltI (by omega) (by omega)).mp q
          omega
        · exact hno t2 (by omega) h2 h3 h4
      · have hts : (t + 1) * V k ≤ L := (nI_leI (by omega) (by omega)).mp (nlt_le q)
        have eI : ((1000 : Int32) * (nI i + (1 : Int32)) + nI L) - nI ((t + 1) * V k) = nI (1000 * (i + 1) + (L - (t + 1) * V k)) := by
          rw [nI_1, show (1000 : Int32) = nI 1000 from rfl, pk_mul, nI_add, pk_sub (by omega)]
          congr 1; omega
        have eJ : (1000 : Int32) * nI i + nI L = nI (1000 * i + L) := by
          rw [show (1000 : Int32) = nI 1000 from rfl, pk_mul, nI_add]
        rw [eI, eJ, nI_clamp (show 1000 * (i + 1) + (L - (t + 1) * V k) < 2 ^ 31 by omega), nI_clamp (show 1000 * i + L < 2 ^ 31 by omega), hrM]
        refine ⟨vp_in_nI (by omega) (by omega), vp_in_nI (by omega) (by omega), ?_⟩
        rcases hrow (L - (t + 1) * V k) (by omega) with ⟨m0, g1, g2⟩ | ⟨g1, g2⟩
        · have g2' : mfe (1000 * (i + 1) + (L - (t + 1) * V k)) = nI m0 := g2
          have gb := bd g1.1
          rw [g2', nI_add]
          refine ⟨fun e => ?_, fun e => ih (by omega) (fun t2 h1 h2 h3 h4 => ?_)⟩
          · have e : t + 1 + m0 = M := (nI_eq (by omega) (by omega)).mp e
            exact hX (t + 1) ⟨ht, hts, M, hM, by omega, by rw [← e, Nat.add_sub_cancel_left]; exact g1.1, hno⟩
          · by_cases e2 : t2 = t + 1
            · subst e2
              intro hc
              have a1 := g1.2 _ hc
              have a2 := hM.2 (t + 1 + m0) ((Cnt_bump hk h0).mpr ⟨t + 1, h2, h3, by omega, by rw [Nat.add_sub_cancel_left]; exact g1.1⟩)
              exact e (by congr 1; omega)
            · exact hno t2 (by omega) h2 h3 h4
        · have g2' : mfe (1000 * (i + 1) + (L - (t + 1) * V k)) = nI 1000000 := g2
          rw [g2', nI_add]
          refine ⟨fun e => ?_, fun e => ih (by omega) (fun t2 h1 h2 h3 h4 => ?_)⟩
          · have : t + 1 + 1000000 = M := (nI_eq (by omega) (by omega)).mp e
            omega
          · by_cases e2 : t2 = t + 1
            · subst e2; exact g1 _
            · exact hno t2 (by omega) h2 h3 h4
  exact lp b (Nat.le_refl _) (fun t2 h1 h2 => by omega)
theorem Hs_cz {n : Nat} {V w : Nat → Nat} {x y : Nat} (h : ∀ k, k < n → ¬ w k = 0 → (x ≤ V k ↔ y ≤ V k)) : Hs n V w x = Hs n V w y := by
  unfold Hs
  refine sm_congr (fun k hk => ?_)
  by_cases e : w k = 0
  · rw [e, Nat.zero_mul]
    by_cases a : x ≤ V k
    · rw [if_pos a]; by_cases b : y ≤ V k
      · rw [if_pos b]
      · rw [if_neg b]
    · rw [if_neg a]; by_cases b : y ≤ V k
      · rw [if_pos b]
      · rw [if_neg b]
  · by_cases b : y ≤ V k
    · rw [if_pos b, if_pos ((h k hk e).mpr b)]
    · rw [if_neg b, if_neg (fun q => b ((h k hk e).mp q))]
theorem sp_w263 {n r rs s : Nat} {V T rk : Nat → Nat} {mva mno mtu mst mrk mfe : Nat → Int32} {K : Int32 → Int32 → (Nat → Int32) → (Nat → Int32) → (Nat → Int32) → Prop} {X : (Nat → Int32) → Prop} (hKN : KN n V T (nI n) mva mtu) (hd : ∀ i j, i < n → j < n → V i = V j → i = j) (hR : RKI n V mno rs rk) (hrk : ∀ i, i < rs → mrk i = nI (rk i)) (hr : r ≤ 20) (hs : s ≤ 999)
    (hrow : ∀ j, j ≤ rs → RowOK 1000000 n V (thr V (spN mno mst T r) (yat V rk j)) s (fun s => mfe (1000 * j + s)))
    (hX : ∀ mus w, (∀ k, k < 6 → mus k = nI (w k)) → (∀ k, n ≤ k → w k = 0) → IsW n V mno (spN mno mst T r) s w → X mus) :
    ∀ (d i L : Nat) (mus : Nat → Int32) (w : Nat → Nat), i + d = rs → L + Hs n V w (yat V rk i) = s → (∃ m, Cnt n V (thr V (spN mno mst T r) (yat V rk i)) L m) → (∀ k, k < 6 → mus k = nI (w k)) → (∀ k, ¬ w k = 0 → ∃ p, p < i ∧ rk p = k) → (∀ p, p < i → ChOK n V (thr V (spN mno mst T r) (V (rk p))) (rk p) (spN mno mst T r (rk p)) (s - Hs n V w (V (rk p) + 1)) (w (rk p))) → wp_X6_isWay_263 (nI r) mva mtu mst (nI rs) mrk mfe K X (d + 1) (nI L) (nI i) mus := by
  obtain ⟨-, hn, hv, ht⟩ := id hKN
  have hsp : ∀ i, i < n → spN mno mst T r i ≤ 20 := fun i hi => Nat.le_trans spN_le (ht i hi).2
  have hz : ∀ k, k < n → ¬ mno k = 0 → spN mno mst T r k = 0 := fun k hk hc => by unfold spN; rw [if_neg (by simp [gvs, hc])]
  have hrn := hR.1
  intro d
  induction d with
  | zero =>
    intro i L mus w hi h1 h2 h3 h4 h5
    have e : i = rs := by omega
    subst e
    unfold wp_X6_isWay_263
    refine ⟨fun _ => hX mus w h3 (fun k hk => ?_) ⟨fun k hk hc => ?_, fun k hk hc => ?_⟩, fun q => absurd (nI_le (by omega) (by omega)) q⟩
    · rcases Nat.eq_zero_or_pos (w k) with e | e
      · exact e
      · obtain ⟨p, hp, rfl⟩ := h4 k (by omega)
        have := (hR.2.1 p hp).1; omega
    · obtain ⟨p, hp, rfl⟩ := hR.2.2.2 k hk hc
      exact h5 p hp
    · rcases Nat.eq_zero_or_pos (w k) with e | e
      · exact e
      · obtain ⟨p, hp, rfl⟩ := h4 k (by omega)
        exact absurd (hR.2.1 p hp).2 hc
  | succ d ih =>
    intro i L mus w hi h1 h2 h3 h4 h5
    unfold wp_X6_isWay_263
    obtain ⟨a1, a2⟩ := hR.2.1 i (by omega)
    obtain ⟨v1, v2, v3⟩ := hv _ a1
    rw [nI_clamp (show i < 2 ^ 31 by omega), hrk i (by omega), nI_clamp (show rk i < 2 ^ 31 by omega), v1, nI_1]
    refine ⟨fun q => absurd q (nI_ge (by omega) (by omega)), fun _ => ⟨vp_in_nI (by omega) (by omega), ?_⟩⟩
    refine sp_mayUse (by omega) a2 (ht _ a1).1 (ht _ a1).2 hr ?_
    have hst := thr_stepR hR (sp := spN mno mst T r) (fun i hi => (hv i hi).2.2) hz (show i < rs by omega)
    have hrw := hrow (i + 1) (by omega)
    rw [yat_s] at hrw
    refine sp_w290 (sum := s) (sp := thr V (spN mno mst T r) (V (rk i))) hn a1 ⟨v1, v2, v3⟩ (by omega) hs (by omega) (hsp _ a1) thr_self (fun k hk => Nat.le_trans thr_le (hsp k hk)) hrw (RowOK_congr (fun k hk => (hst k hk).symm) (fun _ _ => rfl) (hrow i (by omega))) ?_ (fun u hu => ?_)
    · obtain ⟨m, hm⟩ := h2
      exact ⟨m, (Cnt_congr hst).mpr hm⟩
    · have hin : vp_in (nI (rk i)) 6 := vp_in_nI (by omega) (by omega)
      have hus : u * V (rk i) ≤ L := hu.2.1
      refine ⟨hin, hin, ?_⟩
      rw [pk_mul, pk_sub hus]
      have ew : ∀ p, p < i → rk p ≠ rk i := fun p hp e => by have := hR.2.2.1 p i hp (by omega); rw [e] at this; omega
      have eH : Hs n V w (yat V rk i) = Hs n V w (V (rk i) + 1) := by
        refine Hs_cz (fun k hk hw => ?_)
        obtain ⟨p, hp, rfl⟩ := h4 k hw
        have l1 := hR.2.2.1 p i hp (by omega)
        have l2 : yat V rk i ≤ V (rk p) := by
          unfold yat
          rw [if_neg (show ¬ i = 0 by omega)]
          by_cases e : p = i - 1
          · rw [e]; exact Nat.le_refl _
          · have := hR.2.2.1 p (i - 1) (by omega) (by omega); omega
        exact ⟨fun _ => by omega, fun _ => l2⟩
      rw [eH] at h1
      refine ih (i + 1) (L - u * V (rk i)) _ (st w (rk i) u) (by omega) ?_ ?_ (fun k hk => ?_) (fun k hw => ?_) (fun p hp => ?_)
      · rw [yat_s, Hs_step a1 hd]; omega
      · obtain ⟨-, -, M, -, -, hc, -⟩ := hu
        rw [yat_s]
        exact ⟨_, hc⟩
      · by_cases e : k = rk i
        · subst e; rw [pk_us, st_s]
        · rw [pk_un e, st_n e]; exact h3 k hk
      · by_cases e : k = rk i
        · exact ⟨i, by omega, e.symm⟩
        · rw [st_n e] at hw
          obtain ⟨p, hp, rfl⟩ := h4 k hw
          exact ⟨p, by omega, rfl⟩
      · by_cases e : p = i
        · subst e
          have e2 : Hs n V (st w (rk p) u) (V (rk p) + 1) = Hs n V w (V (rk p) + 1) := Hs_congr (fun _ _ => Iff.rfl) (fun k hk hle => st_n (fun q => by subst q; omega))
          rw [st_s, e2, show s - Hs n V w (V (rk p) + 1) = L by omega]
          exact hu
        · have hlt := hR.2.2.1 p i (by omega) (by omega)
          have e2 : Hs n V (st w (rk i) u) (V (rk p) + 1) = Hs n V w (V (rk p) + 1) := Hs_congr (fun _ _ => Iff.rfl) (fun k hk hle => st_n (fun q => by subst q; omega))
          rw [st_n (ew p (by omega)), e2]
          exact h5 p (by omega)
theorem sp_w6 {n r : Nat} {x1 : Int32} {V T : Nat → Nat} {mva mno mtu mst mrk mfe mus : Nat → Int32} {mrs : Int32} {K : Int32 → Int32 → (Nat → Int32) → (Nat → Int32) → (Nat → Int32) → Prop} {X : Prop} (hKN : KN n V T (nI n) mva mtu) (hr : r ≤ 20) (h0 : ¬ (∀ i, i < n → gvs mno mst i = true → r ≤ T i) → K 0 mrs mrk mfe mus) (h1 : (∀ i, i < n → gvs mno mst i = true → r ≤ T i) → X) :
    ∃ f, wp_X6_isWay_6 x1 (nI r) (nI n) mno mtu mst mrs mrk mfe mus K X f 0 := by
  obtain ⟨-, hn, hv, ht⟩ := id hKN
  refine ⟨n + 1, ?_⟩
  have lp : ∀ (m k : Nat), k + m = n → (∀ i, i < k → gvs mno mst i = true → r ≤ T i) → wp_X6_isWay_6 x1 (nI r) (nI n) mno mtu mst mrs mrk mfe mus K X (m + 1) (nI k) := by
    intro m
    induction m with
    | zero =>
      intro k hk hA
      unfold wp_X6_isWay_6
      exact ⟨fun _ => h1 (fun i hi => hA i (by omega)), fun q => absurd (nI_le (by omega) (by omega)) q⟩
    | succ m ih =>
      intro k hk hA
      unfold wp_X6_isWay_6
      obtain ⟨t1, t2⟩ := ht k (by omega)
      rw [nI_clamp (show k < 2 ^ 31 by omega), nI_1, t1]
      refine ⟨fun q => absurd q (nI_ge (by omega) (by omega)), fun _ => ?_⟩
      have go : (gvs mno mst k = true → r ≤ T k) → wp_X6_isWay_6 x1 (nI r) (nI n) mno mtu mst mrs mrk mfe mus K X (m + 1) (nI (k + 1)) := fun hh => ih (k + 1) (by omega) (fun i hi hg => by
        by_cases e : i = k
        · subst e; exact hh hg
        · exact hA i (by omega) hg)
      by_cases hc : mno k = 0
      · refine sp_isCoin_y (by omega) hn hc ⟨fun e => absurd e (by decide), fun _ => ⟨vp_in_nI (by omega) (by omega), fun q => go (fun hg => ?_), fun q => ⟨vp_in_nI (by omega) (by omega), fun q2 => go (fun _ => (nI_leI (by omega) (by omega)).mp q2), fun q2 => h0 (fun hall => ?_)⟩⟩⟩
        · simp [gvs, q] at hg
        · have := hall k (by omega) (by simp [gvs, hc, q])
          exact q2 (nI_le this (by omega))
      · refine sp_isCoin_n hn (fun i hi e => ?_) ⟨fun _ => go (fun hg => ?_), fun q => absurd rfl q⟩
        · rw [nI_eq (by omega) (by omega)] at e; subst e; exact hc
        · simp [gvs, hc] at hg
  exact lp n 0 (by omega) (fun i hi => by omega)
theorem sp_isWay {n r s : Nat} {V T : Nat → Nat} {mva mno mtu mst mrk mfe mus : Nat → Int32} {mrs : Int32} {K : Int32 → Int32 → (Nat → Int32) → (Nat → Int32) → (Nat → Int32) → Prop} (hKN : KN n V T (nI n) mva mtu) (hd : ∀ i j, i < n → j < n → V i = V j → i = j) (hr : r ≤ 20) (hs : s ≤ 999)
    (h0 : (¬ (∀ i, i < n → gvs mno mst i = true → r ≤ T i) ∨ ¬ Rc n V (spN mno mst T r) s) → ∀ mrs2 mrk2 mfe2 mus2, K 0 mrs2 mrk2 mfe2 mus2)
    (h1 : (∀ i, i < n → gvs mno mst i = true → r ≤ T i) → Rc n V (spN mno mst T r) s → ∀ rs rk mrk2 mfe2 mus2 w, RKI n V mno rs rk → (∀ i, i < rs → mrk2 i = nI (rk i)) → IsW n V mno (spN mno mst T r) s w → (∀ k, k < 6 → mus2 k = nI (w k)) → (∀ k, n ≤ k → w k = 0) → K 1 (nI rs) mrk2 mfe2 mus2) : wp_X6_isWay (nI s) (nI r) (nI n) mva mno mtu mst mrs mrk mfe mus K := by
  obtain ⟨-, hn, hv, ht⟩ := id hKN
  have hz : ∀ k, k < n → ¬ mno k = 0 → spN mno mst T r k = 0 := fun k hk hc => by unfold spN; rw [if_neg (by simp [gvs, hc])]
  unfold wp_X6_isWay
  refine sp_rank hn hv hd (fun rs rk mrk2 hR hrk => ?_)
  have hrn := hR.1
  refine sp_w6 hKN hr (fun q => h0 (Or.inl q) _ _ _ _) (fun hall => ?_)
  refine sp_w51 (by omega) hs (fun mfe2 hb => ⟨rs + 1, ?_⟩)
  refine sp_w94 hKN hR hrk hr hs (fun mfe3 hrow => ?_) rs mfe2 (Nat.le_refl _) (fun j hj hj2 => ?_)
  · refine sp_w226 (fun mus2 hm2 => ?_)
    rw [nI_clamp (show s < 2 ^ 31 by omega)]
    have hrow0 := hrow 0 (by omega)
    have hy : ∀ i, i < n → thr V (spN mno mst T r) (yat V rk 0) i = spN mno mst T r i := fun i hi => by
      unfold thr yat
      rw [if_pos rfl, if_pos (by have := (hv i hi).2.2; omega)]
    have hfin : mfe3 s = mfe3 (1000 * 0 + s) := by rw [Nat.mul_zero, Nat.zero_add]
    have hH : Hs n V (fun _ => 0) (yat V rk 0) = 0 := by
      unfold Hs
      have z : ∀ {k : Nat}, sm (fun _ => 0) k = 0 := by
        intro k
        induction k with
        | zero => rfl
        | succ k ih => show sm (fun _ => 0) k + 0 = 0; rw [ih]
      rw [sm_congr (g := fun _ => 0) (fun i hi => by simp)]
      exact z
    refine ⟨vp_in_nI (by omega) (by omega), fun q => ?_, fun q => h0 (Or.inr (fun hre => ?_)) _ _ _ _⟩
    · have hex : ∃ m, Cnt n V (thr V (spN mno mst T r) (yat V rk 0)) s m := by
        rcases hrow0 s (Nat.le_refl _) with ⟨m, a, -⟩ | ⟨-, b⟩
        · exact ⟨m, a.1⟩
        · have b' : mfe3 (1000 * 0 + s) = nI 1000000 := b
          rw [hfin, b'] at q
          exact absurd q (nI_nlt (a := 1000000) (b := 1000000) (by omega) (by omega))
      have hre : Rc n V (spN mno mst T r) s := by
        obtain ⟨m, hm⟩ := hex
        exact Cnt_Rc.mpr ⟨m, (Cnt_congr hy).mp hm⟩
      refine ⟨rs + 1, sp_w263 hKN hd hR hrk hr hs hrow (fun mus3 w e1 e2 e3 => h1 hall hre rs rk mrk2 mfe3 mus3 w hR hrk e3 e1 e2) rs 0 s mus2 (fun _ => 0) (by omega) (by rw [hH]; rfl) hex (fun k hk => hm2 k hk) (fun k hk => absurd rfl hk) (fun p hp => by omega)⟩
    · obtain ⟨m, hm⟩ := Cnt_Rc.mp hre
      rcases hrow0 s (Nat.le_refl _) with ⟨m2, a, b⟩ | ⟨a, -⟩
      · have b' : mfe3 (1000 * 0 + s) = nI m2 := b
        have hb2 : m2 ≤ n * 20 := Cnt_le a.1 (fun i hi => Nat.le_trans thr_le (Nat.le_trans spN_le (ht i hi).2))
        have hb3 : n * 20 ≤ 6 * 20 := Nat.mul_le_mul_right 20 hn
        rw [hfin, b'] at q
        exact q (nI_lt (b := 1000000) (by omega) (by omega))
      · exact a m ((Cnt_congr hy).mpr hm)
  · have e : j = rs := by omega
    subst e
    have hl := thr_last hR (V := V) (sp := spN mno mst T r) hz
    intro s2 hs2
    show (∃ m, _ ∧ mfe2 (1000 * j + s2) = nI m) ∨ (_ ∧ mfe2 (1000 * j + s2) = _)
    rw [hb s2 hs2]
    by_cases e0 : s2 = 0
    · subst e0
      exact Or.inl ⟨0, ⟨(Cnt_congr hl).mpr (Cnt_0.mpr ⟨rfl, rfl⟩), fun m2 _ => Nat.zero_le _⟩, rfl⟩
    · rw [if_neg e0]
      exact Or.inr ⟨fun m hm => e0 (Cnt_0.mp ((Cnt_congr hl).mp hm)).1, rfl⟩
