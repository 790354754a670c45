/-! pure: what can be reached -/
def sm (f : Nat → Nat) : Nat → Nat
  | 0 => 0
  | k + 1 => sm f k + f k
theorem sm_congr {f g : Nat → Nat} : ∀ {n : Nat}, (∀ i, i < n → f i = g i) → sm f n = sm g n
  | 0, _ => rfl
  | n + 1, h => by
    show sm f n + f n = sm g n + g n
    rw [sm_congr (fun i hi => h i (by omega)), h n (by omega)]
def st (c : Nat → Nat) (k x : Nat) : Nat → Nat := fun i => if i = k then x else c i
theorem st_s {c : Nat → Nat} {k x : Nat} : st c k x k = x := by simp [st]
theorem st_n {c : Nat → Nat} {k x i : Nat} (h : i ≠ k) : st c k x i = c i := by simp [st, h]
theorem sm_st {c V : Nat → Nat} {k x : Nat} : ∀ {n : Nat}, k < n → sm (fun i => st c k x i * V i) n + c k * V k = sm (fun i => c i * V i) n + x * V k
  | 0, h => by omega
  | n + 1, h => by
    show sm (fun i => st c k x i * V i) n + st c k x n * V n + c k * V k = sm (fun i => c i * V i) n + c n * V n + x * V k
    by_cases e : k = n
    · subst e
      rw [st_s, sm_congr (g := fun i => c i * V i) (fun i hi => by rw [st_n (by omega)])]
      omega
    · have := sm_st (c := c) (V := V) (x := x) (show k < n by omega)
      rw [st_n (by omega)]
      omega
def Rc (n : Nat) (V sp : Nat → Nat) (s : Nat) : Prop := ∃ c : Nat → Nat, (∀ i, i < n → c i ≤ sp i) ∧ sm (fun i => c i * V i) n = s
theorem Rc_congr {n : Nat} {V sp sp2 : Nat → Nat} {s : Nat} (h : ∀ i, i < n → sp i = sp2 i) : Rc n V sp s ↔ Rc n V sp2 s :=
  ⟨fun ⟨c, h1, h2⟩ => ⟨c, fun i hi => by rw [← h i hi]; exact h1 i hi, h2⟩, fun ⟨c, h1, h2⟩ => ⟨c, fun i hi => by rw [h i hi]; exact h1 i hi, h2⟩⟩
theorem Rc_0 {n : Nat} {V : Nat → Nat} {s : Nat} : Rc n V (fun _ => 0) s ↔ s = 0 := by
  have z : ∀ {m : Nat}, sm (fun _ => 0) m = 0 := by
    intro m
    induction m with
    | zero => rfl
    | succ m ih => show sm (fun _ => 0) m + 0 = 0; rw [ih]
  constructor
  · rintro ⟨c, h1, rfl⟩
    rw [sm_congr (g := fun _ => 0) (fun i hi => by have hz : c i ≤ 0 := h1 i hi; rw [show c i = 0 by omega]; simp)]
    exact z
  · rintro rfl
    refine ⟨fun _ => 0, fun _ _ => Nat.le_refl _, ?_⟩
    rw [sm_congr (g := fun _ => 0) (fun i hi => by simp)]
    exact z
theorem Rc_zero {n : Nat} {V sp : Nat → Nat} : Rc n V sp 0 := by
  obtain ⟨c, h1, h2⟩ := (Rc_0 (n := n) (V := V) (s := 0)).mpr rfl
  exact ⟨c, fun i hi => Nat.le_trans (h1 i hi) (Nat.zero_le _), h2⟩
/-- up to m coins more of kind k -/
theorem Rc_bump {n k m s : Nat} {V sp : Nat → Nat} (hk : k < n) : Rc n V (st sp k (sp k + m)) s ↔ ∃ c, c ≤ m ∧ c * V k ≤ s ∧ Rc n V sp (s - c * V k) := by
  constructor
  · rintro ⟨c, h1, rfl⟩
    have hck : c k ≤ sp k + m := by have := h1 k hk; rwa [st_s] at this
    have e := sm_st (c := c) (V := V) (x := c k - (c k - sp k)) hk
    have hmul : c k * V k = (c k - (c k - sp k)) * V k + (c k - sp k) * V k := by
      rw [← Nat.add_mul]; congr 1; omega
    refine ⟨c k - sp k, by omega, by omega, st c k (c k - (c k - sp k)), fun i hi => ?_, by omega⟩
    by_cases hi2 : i = k
    · subst hi2; rw [st_s]; omega
    · rw [st_n hi2]; have := h1 i hi; rwa [st_n hi2] at this
  · rintro ⟨t, h1, h2, c, h3, h4⟩
    have e := sm_st (c := c) (V := V) (x := c k + t) hk
    have hmul : (c k + t) * V k = c k * V k + t * V k := Nat.add_mul _ _ _
    refine ⟨st c k (c k + t), fun i hi => ?_, by omega⟩
    by_cases hi2 : i = k
    · subst hi2; rw [st_s, st_s]; have := h3 i hi; omega
    · rw [st_n hi2, st_n hi2]; exact h3 i hi
/-- the numbers c up to t, then up to t + m -/
theorem cover {P P0 P2 : Nat → Prop} {v t m : Nat} (hm : m ≤ t + 1) {s : Nat} (hP : ∀ s, s < 1024 → (P s ↔ ∃ c, c ≤ t ∧ c * v ≤ s ∧ P0 (s - c * v))) (hs : s < 1024) (h2 : P2 s ↔ P s ∨ (m * v ≤ s ∧ P (s - m * v))) : P2 s ↔ ∃ c, c ≤ t + m ∧ c * v ≤ s ∧ P0 (s - c * v) := by
  rw [h2, hP s hs]
  constructor
  · rintro (⟨c, h1, h3, h4⟩ | ⟨h1, h3⟩)
    · exact ⟨c, by omega, h3, h4⟩
    · obtain ⟨c, h4, h5, h6⟩ := (hP (s - m * v) (by omega)).mp h3
      have e : (c + m) * v = c * v + m * v := Nat.add_mul _ _ _
      exact ⟨c + m, by omega, by omega, by rw [e, show s - (c * v + m * v) = s - m * v - c * v by omega]; exact h6⟩
  · rintro ⟨c, h1, h3, h4⟩
    by_cases hc : c ≤ t
    · exact Or.inl ⟨c, hc, h3, h4⟩
    · obtain ⟨d, rfl⟩ : ∃ d, c = d + m := ⟨c - m, by omega⟩
      have e : (d + m) * v = d * v + m * v := Nat.add_mul _ _ _
      refine Or.inr ⟨by omega, (hP (s - m * v) (by omega)).mpr ⟨d, by omega, by omega, ?_⟩⟩
      rw [show s - m * v - d * v = s - (d + m) * v by omega]
      exact h4
theorem min_nI {a b : Nat} (ha : a < 2 ^ 31) (hb : b < 2 ^ 31) : (if nI a < nI b then nI a else nI b) = nI (min a b) := by
  by_cases h : a < b
  · rw [if_pos (nI_lt h hb), Nat.min_eq_left (by omega)]
  · rw [if_neg (nI_nlt (by omega) ha), Nat.min_eq_right (by omega)]
theorem sp_addCoins_loop {j v n : Nat} {wd : Nat → Nat → Int64} {K X : (Nat → Nat → Int64) → Prop} (hv : v ≤ 200) (hn : n ≤ 20)
    (hX : ∀ wd2, (∀ i, i ≠ j → wd2 i = wd i) → (∀ s, s < 1024 → (bw (wd2 j) s = true ↔ ∃ c, c ≤ n ∧ c * v ≤ s ∧ bw (wd j) (s - c * v) = true)) → X wd2) :
    ∀ (f l p t : Nat) (wd2 : Nat → Nat → Int64), l < f → t + l = n → (l = 0 ∨ p = t + 1) → 1 ≤ p → p ≤ 40 → (∀ i, i ≠ j → wd2 i = wd i) → (∀ s, s < 1024 → (bw (wd2 j) s = true ↔ ∃ c, c ≤ t ∧ c * v ≤ s ∧ bw (wd j) (s - c * v) = true)) → wp_X2_addCoins_5 j (nI v) K X f (nI l) (nI p) wd2 := by
  intro f
  induction f with
  | zero => intro l p t wd2 h; omega
  | succ f ih =>
    intro l p t wd2 hl htl hp hp1 hp40 h1 h2
    have fin : l = 0 → X wd2 := by
      intro e
      refine hX wd2 h1 ?_
      rw [show n = t by omega]
      exact h2
    unfold wp_X2_addCoins_5
    refine ⟨fun c => fin ?_, fun c => ⟨fun c2 => fin ?_, fun c2 => ?_⟩⟩
    · rcases hp with e | e
      · exact e
      · rw [show (20 : Int32) = nI 20 from rfl, nI_ltI (by omega) (by omega)] at c
        omega
    · rcases Nat.eq_zero_or_pos l with e | e
      · exact e
      · exact absurd c2 (nI_nle e (by omega))
    · have hl0 : 0 < l := by
        rcases Nat.eq_zero_or_pos l with e | e
        · subst e; exact absurd (by decide) c2
        · exact e
      have hpt : p = t + 1 := by omega
      have hp20 : p ≤ 20 := by
        rw [show (20 : Int32) = nI 20 from rfl, nI_ltI (by omega) (by omega)] at c
        omega
      rw [min_nI (by omega) (by omega), pk_mul, pk_sub (Nat.min_le_left _ _), show (2 : Int32) = nI 2 from rfl, pk_mul]
      have hb : min l p * v ≤ 20 * 200 := Nat.mul_le_mul (by omega) hv
      refine sp_addShifted (by omega) (fun wd3 h3 h4 => ?_)
      refine ih _ _ (t + min l p) wd3 (by omega) (by omega) (by omega) (by omega) (by omega) (fun i hi => (h3 i hi).trans (h1 i hi)) (fun s hs => ?_)
      refine cover (P := fun s => bw (wd2 j) s = true) (P0 := fun s => bw (wd j) s = true) (P2 := fun s => bw (wd3 j) s = true) (by omega) h2 hs ?_
      show bw (wd3 j) s = true ↔ _
      rw [h4 s hs]
      simp
theorem sp_addCoins {j v n : Nat} {wd : Nat → Nat → Int64} {K : (Nat → Nat → Int64) → Prop} (hv : v ≤ 200) (hn : n ≤ 20)
    (h : ∀ wd2, (∀ i, i ≠ j → wd2 i = wd i) → (∀ s, s < 1024 → (bw (wd2 j) s = true ↔ ∃ c, c ≤ n ∧ c * v ≤ s ∧ bw (wd j) (s - c * v) = true)) → K wd2) : wp_X2_addCoins j (nI v) (nI n) wd K := by
  unfold wp_X2_addCoins
  refine ⟨n + 1, sp_addCoins_loop (K := K) (X := fun wd2 => K wd2) (wd := wd) hv hn h (n + 1) n 1 0 wd (by omega) (by omega) (by omega) (by omega) (by omega) (fun _ _ => rfl) (fun s hs => ?_)⟩
  constructor
  · intro hb; exact ⟨0, Nat.le_refl _, by omega, by simpa using hb⟩
  · rintro ⟨c, h1, h2, h3⟩
    have : c = 0 := by omega
    subst this
    simpa using h3
theorem sp_onlyZero {j : Nat} {wd : Nat → Nat → Int64} {K : (Nat → Nat → Int64) → Prop} (h : ∀ wd2, (∀ i, i ≠ j → wd2 i = wd i) → (∀ s, s < 1024 → (bw (wd2 j) s = true ↔ s = 0)) → K wd2) : wp_X2_onlyZero j wd K := by
  unfold wp_X2_onlyZero
  refine ⟨vp_in_l (by decide), h _ (fun i hi => ?_) (fun s hs => ?_)⟩
  · rw [va_up_ne _ _ hi, va_up_ne _ _ hi]
  · unfold bw
    rw [va_up_self, va_up_self, show (0 : Int32).toNatClampNeg = 0 from rfl]
    by_cases e : s / 64 = 0
    · rw [e, pk_uLs]
      show BitVec.getLsbD 1#64 (s % 64) = true ↔ _
      by_cases e2 : s % 64 = 0
      · rw [e2]; simp; omega
      · constructor
        · intro hb
          simp at hb
          omega
        · intro hb; omega
    · rw [pk_uLn e]
      unfold fillL
      rw [if_pos (by omega)]
      constructor
      · intro hb
        have : (0 : Int64).toBitVec.getLsbD (s % 64) = false := by show BitVec.getLsbD 0#64 _ = false; simp
        rw [this] at hb; cases hb
      · intro hb; omega
def gvs (kn ks : Nat → Int32) (i : Nat) : Bool := decide (kn i = 0) && decide (ks i = 0)
theorem sp_gives {i : Nat} {kn ks : Nat → Int32} {K : Int32 → Prop} (h : K (b2 (gvs kn ks i))) : wp_X0_gives i kn ks K := by
  unfold wp_X0_gives
  unfold gvs at h
  refine ⟨fun c => ?_, fun c => ⟨fun c2 => ?_, fun c2 => ?_⟩⟩
  · simp [c, b2] at h; exact h
  · simp [c2, b2] at h; exact h
  · simp [c, c2, b2] at h; exact h
def spN (kn ks : Nat → Int32) (T : Nat → Nat) (r i : Nat) : Nat := if gvs kn ks i = true then T i - r else 0
theorem sp_spare {i r : Nat} {kn kt ks : Nat → Int32} {T : Nat → Nat} {K : Int32 → Prop} (ht : kt i = nI (T i)) (hT : T i ≤ 1000) (hr : r ≤ 1000) (h : K (nI (spN kn ks T r i))) : wp_X0_spare i (nI r) kn kt ks K := by
  unfold wp_X0_spare
  refine sp_gives ⟨fun c => ?_, fun c => ?_⟩
  · rw [b2_0] at c
    unfold spN at h
    rw [if_neg (by rw [c]; decide)] at h
    exact h
  · rw [b2_n0] at c
    unfold spN at h
    rw [if_pos c] at h
    rw [ht]
    by_cases hlt : r < T i
    · rw [pk_sub (by omega), if_pos (show (0 : Int32) < nI (T i - r) from nI_lt (a := 0) (by omega) (by omega))]
      exact h
    · rw [if_neg ?_]
      · rw [show T i - r = 0 by omega] at h; exact h
      · rw [Int32.lt_iff_toInt_lt, pk_sub_toInt (by omega) (by omega)]
        show ¬ (0 : Int) < _
        omega
