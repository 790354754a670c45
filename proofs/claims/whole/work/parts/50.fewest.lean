/-! the fewest coins -/
def Cnt (n : Nat) (V sp : Nat → Nat) (s m : Nat) : Prop := ∃ c : Nat → Nat, (∀ i, i < n → c i ≤ sp i) ∧ sm (fun i => c i * V i) n = s ∧ sm c n = m
theorem Cnt_congr {n : Nat} {V sp sp2 : Nat → Nat} {s m : Nat} (h : ∀ i, i < n → sp i = sp2 i) : Cnt n V sp s m ↔ Cnt n V sp2 s m :=
  ⟨fun ⟨c, h1, h2⟩ => ⟨c, fun i hi => by rw [← h i hi]; exact h1 i hi, h2⟩, fun ⟨c, h1, h2⟩ => ⟨c, fun i hi => by rw [h i hi]; exact h1 i hi, h2⟩⟩
theorem Cnt_Rc {n : Nat} {V sp : Nat → Nat} {s : Nat} : Rc n V sp s ↔ ∃ m, Cnt n V sp s m :=
  ⟨fun ⟨c, h1, h2⟩ => ⟨_, c, h1, h2, rfl⟩, fun ⟨_, c, h1, h2, _⟩ => ⟨c, h1, h2⟩⟩
theorem sm_st1 {c : Nat → Nat} {k x n : Nat} (h : k < n) : sm (st c k x) n + c k = sm c n + x := by
  have := sm_st (c := c) (V := fun _ => 1) (x := x) h
  simp only [Nat.mul_one] at this
  exact this
theorem Cnt_0 {n : Nat} {V : Nat → Nat} {s m : Nat} : Cnt n V (fun _ => 0) s m ↔ s = 0 ∧ m = 0 := by
  have z : ∀ {k : Nat}, sm (fun _ => 0) k = 0 := by
    intro k
    induction k with
    | zero => rfl
    | succ k ih => show sm (fun _ => 0) k + 0 = 0; rw [ih]
  constructor
  · rintro ⟨c, h1, rfl, rfl⟩
    have e : ∀ i, i < n → c i = 0 := fun i hi => by have hh : c i ≤ 0 := h1 i hi; omega
    rw [sm_congr (f := fun i => c i * V i) (g := fun _ => 0) (fun i hi => by rw [e i hi]; simp), sm_congr (f := c) (g := fun _ => 0) e]
    exact ⟨z, z⟩
  · rintro ⟨rfl, rfl⟩
    refine ⟨fun _ => 0, fun _ _ => Nat.le_refl _, ?_, z⟩
    rw [sm_congr (g := fun _ => 0) (fun i hi => by simp)]
    exact z
theorem Cnt_le {n b : Nat} {V sp : Nat → Nat} {s m : Nat} (h : Cnt n V sp s m) (hb : ∀ i, i < n → sp i ≤ b) : m ≤ n * b := by
  obtain ⟨c, h1, -, rfl⟩ := h
  have : ∀ k, k ≤ n → sm c k ≤ k * b := by
    intro k
    induction k with
    | zero => intro _; exact Nat.zero_le _
    | succ k ih =>
      intro hk
      have a := ih (by omega)
      have d := h1 k (by omega)
      have e := hb k (by omega)
      show sm c k + c k ≤ (k + 1) * b
      rw [Nat.succ_mul]; omega
  exact this n (Nat.le_refl _)
/-- up to q more of kind k, where q is at most one more than what may be used of it -/
theorem Cnt_step {n k t q s m : Nat} {V sp : Nat → Nat} (hk : k < n) (hq : q ≤ t + 1) : Cnt n V (st sp k (t + q)) s m ↔ Cnt n V (st sp k t) s m ∨ (q * V k ≤ s ∧ q ≤ m ∧ Cnt n V (st sp k t) (s - q * V k) (m - q)) := by
  constructor
  · rintro ⟨c, h1, rfl, rfl⟩
    have hck : c k ≤ t + q := by have := h1 k hk; rwa [st_s] at this
    by_cases hc : c k ≤ t
    · refine Or.inl ⟨c, fun i hi => ?_, rfl, rfl⟩
      by_cases e : i = k
      · subst e; rw [st_s]; exact hc
      · rw [st_n e]; have := h1 i hi; rwa [st_n e] at this
    · have e1 := sm_st (c := c) (V := V) (x := c k - q) hk
      have e2 := sm_st1 (c := c) (x := c k - q) hk
      have hmul : c k * V k = (c k - q) * V k + q * V k := by rw [← Nat.add_mul]; congr 1; omega
      refine Or.inr ⟨by omega, by omega, st c k (c k - q), fun i hi => ?_, by omega, by omega⟩
      by_cases e : i = k
      · subst e; rw [st_s, st_s]; omega
      · rw [st_n e, st_n e]; have := h1 i hi; rwa [st_n e] at this
  · rintro (⟨c, h1, h2, h3⟩ | ⟨h0, h0', c, h1, h2, h3⟩)
    · refine ⟨c, fun i hi => ?_, h2, h3⟩
      by_cases e : i = k
      · subst e; rw [st_s]; have := h1 i hi; rw [st_s] at this; omega
      · rw [st_n e]; have := h1 i hi; rwa [st_n e] at this
    · have e1 := sm_st (c := c) (V := V) (x := c k + q) hk
      have e2 := sm_st1 (c := c) (x := c k + q) hk
      have hmul : (c k + q) * V k = c k * V k + q * V k := Nat.add_mul _ _ _
      refine ⟨st c k (c k + q), fun i hi => ?_, by omega, by omega⟩
      by_cases e : i = k
      · subst e; rw [st_s, st_s]; have := h1 i hi; rw [st_s] at this; omega
      · rw [st_n e, st_n e]; have := h1 i hi; rwa [st_n e] at this
/-- just so many of kind k -/
theorem Cnt_bump {n k b s m : Nat} {V sp : Nat → Nat} (hk : k < n) (h0 : sp k = 0) : Cnt n V (st sp k b) s m ↔ ∃ t, t ≤ b ∧ t * V k ≤ s ∧ t ≤ m ∧ Cnt n V sp (s - t * V k) (m - t) := by
  constructor
  · rintro ⟨c, h1, rfl, rfl⟩
    have hck : c k ≤ b := by have := h1 k hk; rwa [st_s] at this
    have e1 := sm_st (c := c) (V := V) (x := 0) hk
    have e2 := sm_st1 (c := c) (x := 0) hk
    refine ⟨c k, hck, by omega, by omega, st c k 0, fun i hi => ?_, by omega, by omega⟩
    by_cases e : i = k
    · subst e; rw [st_s]; omega
    · rw [st_n e]; have := h1 i hi; rwa [st_n e] at this
  · rintro ⟨t, h1, h2, h3, c, h4, h5, h6⟩
    have hck : c k = 0 := by have := h4 k hk; omega
    have e1 := sm_st (c := c) (V := V) (x := t) hk
    have e2 := sm_st1 (c := c) (x := t) hk
    have ez : c k * V k = 0 := by rw [hck]; simp
    refine ⟨st c k t, fun i hi => ?_, by omega, by omega⟩
    by_cases e : i = k
    · subst e; rw [st_s, st_s]; exact h1
    · rw [st_n e, st_n e]; exact h4 i hi
def IsMn (n : Nat) (V sp : Nat → Nat) (s m : Nat) : Prop := Cnt n V sp s m ∧ ∀ m2, Cnt n V sp s m2 → m ≤ m2
theorem IsMn.ex {n : Nat} {V sp : Nat → Nat} {s : Nat} (h : ∃ m, Cnt n V sp s m) : ∃ m, IsMn n V sp s m := by
  obtain ⟨m, h1, h2⟩ := pk_least (fun m => Cnt n V sp s m) h
  exact ⟨m, h1, fun m2 h3 => by
    rcases Nat.lt_or_ge m2 m with q | q
    · exact absurd h3 (h2 m2 q)
    · exact q⟩
theorem IsMn.un {n : Nat} {V sp : Nat → Nat} {s a b : Nat} (h1 : IsMn n V sp s a) (h2 : IsMn n V sp s b) : a = b := by
  have x := h1.2 b h2.1
  have y := h2.2 a h1.1
  omega
theorem IsMn_congr {n : Nat} {V sp sp2 : Nat → Nat} {s m : Nat} (h : ∀ i, i < n → sp i = sp2 i) : IsMn n V sp s m ↔ IsMn n V sp2 s m :=
  ⟨fun ⟨a, b⟩ => ⟨(Cnt_congr h).mp a, fun m2 h2 => b m2 ((Cnt_congr h).mpr h2)⟩, fun ⟨a, b⟩ => ⟨(Cnt_congr h).mpr a, fun m2 h2 => b m2 ((Cnt_congr h).mp h2)⟩⟩
/-- a row of the fewest coins, up to sum; where there is no way stands inf -/
def RowOK (inf n : Nat) (V sp : Nat → Nat) (sum : Nat) (row : Nat → Int32) : Prop := ∀ s, s ≤ sum → (∃ m, IsMn n V sp s m ∧ row s = nI m) ∨ ((∀ m, ¬ Cnt n V sp s m) ∧ row s = nI inf)
theorem RowOK_congr {inf n : Nat} {V sp sp2 : Nat → Nat} {sum : Nat} {row row2 : Nat → Int32} (h : ∀ i, i < n → sp i = sp2 i) (hr : ∀ s, s ≤ sum → row2 s = row s) (h1 : RowOK inf n V sp sum row) : RowOK inf n V sp2 sum row2 := by
  intro s hs
  rw [hr s hs]
  rcases h1 s hs with ⟨m, a, b⟩ | ⟨a, b⟩
  · exact Or.inl ⟨m, (IsMn_congr h).mp a, b⟩
  · exact Or.inr ⟨fun m hm => a m ((Cnt_congr h).mpr hm), b⟩
/-- one part more: the less of two -/
theorem RowOK_min {n k t q sum : Nat} {V sp : Nat → Nat} {row row2 : Nat → Int32} (hk : k < n) (hq : q ≤ t + 1) (hn : n ≤ 6) (hb : ∀ i, i < n → st sp k t i ≤ 20) (hq2 : q ≤ 20) (h : RowOK 1000 n V (st sp k t) sum row)
    (hlo : ∀ s, s ≤ sum → s < q * V k → row2 s = row s) (hhi : ∀ s, s ≤ sum → q * V k ≤ s → row2 s = if row s ≤ row (s - q * V k) + nI q then row s else row (s - q * V k) + nI q) : RowOK 1000 n V (st sp k (t + q)) sum row2 := by
  intro s hs
  have bd : ∀ {s m : Nat}, Cnt n V (st sp k t) s m → m ≤ 120 := fun hc => by
    have := Cnt_le hc hb
    have : n * 20 ≤ 6 * 20 := Nat.mul_le_mul_right 20 hn
    omega
  by_cases hw : q * V k ≤ s
  · rw [hhi s hs hw]
    rcases h s hs with ⟨m1, a1, b1⟩ | ⟨a1, b1⟩
    · have c1 := bd a1.1
      rcases h (s - q * V k) (by omega) with ⟨m2, a2, b2⟩ | ⟨a2, b2⟩
      · have c2 := bd a2.1
        rw [b1, b2, nI_add]
        by_cases hle : m1 ≤ m2 + q
        · rw [if_pos (nI_le hle (by omega))]
          refine Or.inl ⟨m1, ⟨(Cnt_step hk hq).mpr (Or.inl a1.1), fun m3 h3 => ?_⟩, rfl⟩
          rcases (Cnt_step hk hq).mp h3 with g | ⟨g1, g2, g3⟩
          · exact a1.2 m3 g
          · have := a2.2 _ g3; omega
        · rw [if_neg (nI_ge (by omega) (by omega))]
          refine Or.inl ⟨m2 + q, ⟨(Cnt_step hk hq).mpr (Or.inr ⟨hw, by omega, by rw [Nat.add_sub_cancel]; exact a2.1⟩), fun m3 h3 => ?_⟩, rfl⟩
          rcases (Cnt_step hk hq).mp h3 with g | ⟨g1, g2, g3⟩
          · have := a1.2 m3 g; omega
          · have := a2.2 _ g3; omega
      · rw [b1, b2, nI_add, if_pos (nI_le (by omega) (by omega))]
        refine Or.inl ⟨m1, ⟨(Cnt_step hk hq).mpr (Or.inl a1.1), fun m3 h3 => ?_⟩, rfl⟩
        rcases (Cnt_step hk hq).mp h3 with g | ⟨g1, g2, g3⟩
        · exact a1.2 m3 g
        · exact absurd g3 (a2 _)
    · rcases h (s - q * V k) (by omega) with ⟨m2, a2, b2⟩ | ⟨a2, b2⟩
      · have c2 := bd a2.1
        rw [b1, b2, nI_add, if_neg (nI_ge (by omega) (by omega))]
        refine Or.inl ⟨m2 + q, ⟨(Cnt_step hk hq).mpr (Or.inr ⟨hw, by omega, by rw [Nat.add_sub_cancel]; exact a2.1⟩), fun m3 h3 => ?_⟩, rfl⟩
        rcases (Cnt_step hk hq).mp h3 with g | ⟨g1, g2, g3⟩
        · exact absurd g (a1 _)
        · have := a2.2 _ g3; omega
      · rw [b1, b2, nI_add, if_pos (nI_le (by omega) (by omega))]
        refine Or.inr ⟨fun m3 h3 => ?_, rfl⟩
        rcases (Cnt_step hk hq).mp h3 with g | ⟨g1, g2, g3⟩
        · exact a1 _ g
        · exact a2 _ g3
  · rw [hlo s hs (by omega)]
    rcases h s hs with ⟨m1, a1, b1⟩ | ⟨a1, b1⟩
    · refine Or.inl ⟨m1, ⟨(Cnt_step hk hq).mpr (Or.inl a1.1), fun m3 h3 => ?_⟩, b1⟩
      rcases (Cnt_step hk hq).mp h3 with g | ⟨g1, -⟩
      · exact a1.2 m3 g
      · exact absurd g1 hw
    · refine Or.inr ⟨fun m3 h3 => ?_, b1⟩
      rcases (Cnt_step hk hq).mp h3 with g | ⟨g1, -⟩
      · exact a1 _ g
      · exact absurd g1 hw
theorem sp_addPart {r sum wo q : Nat} {fw : Nat → Nat → Int32} {K : (Nat → Nat → Int32) → Prop} (hs : sum ≤ 999) (hw : 1 ≤ wo) (hwo : wo ≤ 100000)
    (hK : ∀ fw2, (∀ i, i ≠ r → fw2 i = fw i) → (∀ s, s ≤ sum → s < wo → fw2 r s = fw r s) → (∀ s, s ≤ sum → wo ≤ s → fw2 r s = if fw r s ≤ fw r (s - wo) + nI q then fw r s else fw r (s - wo) + nI q) → K fw2) : wp_X4_addPart r (nI sum) (nI wo) (nI q) fw K := by
  unfold wp_X4_addPart
  have lp : ∀ (m : Nat) (fw2 : Nat → Nat → Int32), m ≤ sum + 1 → (∀ i, i ≠ r → fw2 i = fw i) → (∀ s, s < m → fw2 r s = fw r s) → (∀ s, m ≤ s → s ≤ sum → s < wo → fw2 r s = fw r s) → (∀ s, m ≤ s → s ≤ sum → wo ≤ s → fw2 r s = if fw r s ≤ fw r (s - wo) + nI q then fw r s else fw r (s - wo) + nI q) → wp_X4_addPart_3 r (nI wo) (nI q) K (fun f => K f) (m + 1) (nI m - 1) fw2 := by
    intro m
    induction m with
    | zero =>
      intro fw2 hm h1 h2 h3 h4
      unfold wp_X4_addPart_3
      refine ⟨fun _ => hK fw2 h1 (fun s hs hlt => h3 s (by omega) hs hlt) (fun s hs hle => h4 s (by omega) hs hle), fun c => absurd ?_ c⟩
      rw [i_lt, nI_toInt (by omega)]
      show (-1 : Int) < _
      omega
    | succ m ih =>
      intro fw2 hm h1 h2 h3 h4
      unfold wp_X4_addPart_3
      rw [nI_p1]
      refine ⟨fun c => ?_, fun c => ?_⟩
      · have hlt : m < wo := (nI_ltI (by omega) (by omega)).mp c
        refine hK fw2 h1 (fun s hs hlt2 => ?_) (fun s hs hle => h4 s (by omega) hs hle)
        rcases Nat.lt_or_ge s (m + 1) with g | g
        · exact h2 s g
        · exact h3 s g hs hlt2
      · have hle : wo ≤ m := by
          rcases Nat.lt_or_ge m wo with g | g
          · exact absurd (nI_lt g (by omega)) c
          · exact g
        have hin : vp_in (nI m) 1000 := vp_in_nI (by omega) (by omega)
        rw [pk_sub hle, nI_clamp (show m < 2 ^ 31 by omega), nI_clamp (show m - wo < 2 ^ 31 by omega), h2 m (by omega), h2 (m - wo) (by omega), nI_m1]
        refine ⟨vp_in_nI (by omega) (by omega), hin, fun g => ?_, fun g => ⟨hin, ?_⟩⟩
        · refine ih fw2 (by omega) h1 (fun s hs => h2 s (by omega)) (fun s a b d => ?_) (fun s a b d => ?_)
          · by_cases e : s = m
            · omega
            · exact h3 s (by omega) b d
          · by_cases e : s = m
            · subst e; rw [h2 s (by omega), if_pos g]
            · exact h4 s (by omega) b d
        · refine ih _ (by omega) (fun i hi => by rw [va_up_ne _ _ hi]; exact h1 i hi) (fun s hs => ?_) (fun s a b d => ?_) (fun s a b d => ?_)
          · rw [va_up_self, pk_un (by omega)]; exact h2 s (by omega)
          · rw [va_up_self, pk_un (by omega)]; exact h3 s (by omega) b d
          · rw [va_up_self]
            by_cases e : s = m
            · subst e; rw [pk_us, if_neg g]
            · rw [pk_un e]; exact h4 s (by omega) b d
  refine ⟨sum + 2, ?_⟩
  have := lp (sum + 1) fw (Nat.le_refl _) (fun _ _ => rfl) (fun _ _ => rfl) (fun s a b => by omega) (fun s a b => by omega)
  rw [nI_p1] at this
  exact this
theorem sp_wAddCoins {r n k b sum : Nat} {V sp : Nat → Nat} {fw : Nat → Nat → Int32} {K : (Nat → Nat → Int32) → Prop} (hs : sum ≤ 999) (hn : n ≤ 6) (hk : k < n) (hv1 : 1 ≤ V k) (hv2 : V k ≤ 200) (hb : b ≤ 20) (hsp : ∀ i, i < n → sp i ≤ 20) (h : RowOK 1000 n V (st sp k 0) sum (fw r))
    (hK : ∀ fw2, (∀ i, i ≠ r → fw2 i = fw i) → RowOK 1000 n V (st sp k b) sum (fw2 r) → K fw2) : wp_X4_addCoins r (nI sum) (nI (V k)) (nI b) fw K := by
  unfold wp_X4_addCoins
  have lp : ∀ (f l p t : Nat) (fw2 : Nat → Nat → Int32), l < f → t + l = b → (l = 0 ∨ p = t + 1) → 1 ≤ p → p ≤ 40 → (∀ i, i ≠ r → fw2 i = fw i) → RowOK 1000 n V (st sp k t) sum (fw2 r) → wp_X4_addCoins_6 r (nI sum) (nI (V k)) K (fun f => K f) f (nI l) (nI p) fw2 := by
    intro f
    induction f with
    | zero => intro l p t fw2 h; omega
    | succ f ih =>
      intro l p t fw2 hl htl hp hp1 hp40 h1 h2
      have fin : l = 0 → K fw2 := fun e => hK fw2 h1 (by rw [show b = t by omega]; exact h2)
      unfold wp_X4_addCoins_6
      refine ⟨fun c => fin ?_, fun c => ⟨fun c2 => fin ?_, fun c2 => ?_⟩⟩
      · rcases hp with e | e
        · exact e
        · rw [show (20 : Int32) = nI 20 from rfl, nI_ltI (by omega) (by omega)] at c
          omega
      · rcases Nat.eq_zero_or_pos l with e | e
        · exact e
        · exact absurd c2 (nI_nle e (by omega))
      · have hl0 : 0 < l := by
          rcases Nat.eq_zero_or_pos l with e | e
          · subst e; exact absurd (by decide) c2
          · exact e
        have hpt : p = t + 1 := by omega
        have hp20 : p ≤ 20 := by
          rw [show (20 : Int32) = nI 20 from rfl, nI_ltI (by omega) (by omega)] at c
          omega
        rw [min_nI (by omega) (by omega), pk_mul, pk_sub (Nat.min_le_left _ _), show (2 : Int32) = nI 2 from rfl, pk_mul]
        have hbd : min l p * V k ≤ 20 * 200 := Nat.mul_le_mul (by omega) hv2
        have hpos : 1 * 1 ≤ min l p * V k := Nat.mul_le_mul (by omega) hv1
        refine sp_addPart hs (by omega) (by omega) (fun fw3 h3 h4 h5 => ?_)
        refine ih _ _ (t + min l p) fw3 (by omega) (by omega) (by omega) (by omega) (by omega) (fun i hi => (h3 i hi).trans (h1 i hi)) ?_
        refine RowOK_min hk (by omega) hn (fun i hi => ?_) (by omega) h2 h4 h5
        by_cases e : i = k
        · subst e; rw [st_s]; omega
        · rw [st_n e]; exact hsp i hi
  exact ⟨b + 1, lp (b + 1) b 1 0 fw (by omega) (by omega) (by omega) (by omega) (by omega) (fun _ _ => rfl) h⟩
