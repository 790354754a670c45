/-! pure: numbers, and the bits of the sums -/
def b2 (b : Bool) : Int32 := if b = true then 1 else 0
theorem b2_0 {b : Bool} : b2 b = 0 ↔ b = false := by cases b <;> decide
theorem b2_n0 {b : Bool} : ¬ b2 b = 0 ↔ b = true := by cases b <;> decide
theorem nI_m1 (i : Nat) : nI i + (-1) = nI i - 1 := (Int32.sub_eq_add_neg _ _).symm
theorem nI_p1 (t : Nat) : nI (t + 1) - 1 = nI t := nI_pred t
theorem nI_n1 : nI 0 - 1 < 0 := by decide
theorem nI_0le (t : Nat) : t = 0 ∨ ∃ k, t = k + 1 := by cases t with
  | zero => exact Or.inl rfl
  | succ k => exact Or.inr ⟨k, rfl⟩
theorem nle_lt {x y : Int32} (h : ¬ x ≤ y) : y < x := by
  rw [Int32.lt_iff_toInt_lt]; rw [Int32.le_iff_toInt_le] at h; omega
theorem nlt_le {x y : Int32} (h : ¬ x < y) : y ≤ x := by
  rw [Int32.le_iff_toInt_le]; rw [Int32.lt_iff_toInt_lt] at h; omega
def bw (f : Nat → Int64) (s : Nat) : Bool := (f (s / 64)).toBitVec.getLsbD (s % 64)
theorem zc_cu : ∀ k, k < 64 → ((nI k).toInt64.toUInt64 &&& Int64.toUInt64 63) = UInt64.ofNat k := by decide +kernel
theorem zc_c : ∀ k, k < 64 → ((nI k).toInt64 &&& 63) = lN k := by decide +kernel
theorem zc_sm : ∀ k, k < 64 → (BitVec.ofNat 64 k).smod 64 = BitVec.ofNat 64 k := by decide +kernel
theorem zc_un {k : Nat} (hk : k < 64) : (UInt64.ofNat k).toNat = k := by
  show (BitVec.ofNat 64 k).toNat = k
  rw [BitVec.toNat_ofNat, Nat.mod_eq_of_lt (by omega)]
theorem sh_r (x : Int64) {k : Nat} (hk : k < 64) : (x.toUInt64 >>> ((nI k).toInt64.toUInt64 &&& Int64.toUInt64 63)).toInt64.toBitVec = x.toBitVec >>> k := by
  rw [zc_cu k hk]
  apply BitVec.eq_of_toNat_eq
  show (x.toUInt64 >>> UInt64.ofNat k).toNat = _
  rw [UInt64.toNat_shiftRight, zc_un hk, Nat.mod_eq_of_lt hk, BitVec.toNat_ushiftRight]
  rfl
theorem sh_l (x : Int64) {k : Nat} (hk : k < 64) : (x <<< ((nI k).toInt64 &&& 63)).toBitVec = x.toBitVec <<< k := by
  rw [zc_c k hk, Int64.toBitVec_shiftLeft]
  show x.toBitVec <<< ((BitVec.ofNat 64 k).smod 64) = _
  rw [zc_sm k hk, BitVec.shiftLeft_eq', BitVec.toNat_ofNat, Nat.mod_eq_of_lt (by omega)]
theorem lc_0 {x : Int64} : lg_cmp x 0 = 0 ↔ x = 0 := by
  unfold lg_cmp
  by_cases h1 : x > 0
  · rw [if_pos h1]
    constructor
    · intro h; exact absurd h (by decide)
    · intro h; subst h; exact absurd h1 (by decide)
  · rw [if_neg h1]
    by_cases h2 : x = 0
    · rw [if_pos h2]; simp [h2]
    · rw [if_neg h2]
      constructor
      · intro h; exact absurd h (by decide)
      · intro h; exact absurd h h2
theorem sh_t (x : Int64) {k : Nat} (hk : k < 64) : lg_cmp ((x.toUInt64 >>> ((nI k).toInt64.toUInt64 &&& Int64.toUInt64 63)).toInt64 &&& 1) 0 = 0 ↔ x.toBitVec.getLsbD k = false := by
  rw [lc_0, ← Int64.toBitVec_inj, Int64.toBitVec_and, sh_r x hk]
  show x.toBitVec >>> k &&& 1#64 = 0#64 ↔ _
  constructor
  · intro h
    have t := congrArg (fun x => x.getLsbD 0) h
    simpa using t
  · intro h
    apply BitVec.eq_of_getLsbD_eq
    intro i hi
    cases i with
    | zero => simp [h]
    | succ i => simp
theorem sp_has {j s : Nat} {wd : Nat → Nat → Int64} {K : Int32 → Prop} (hs : s ≤ 999) (h : K (b2 (bw (wd j) s))) : wp_X2_has j (nI s) wd K := by
  unfold wp_X2_has
  refine ⟨fun c => absurd c (nI_pos (by omega)), fun _ => ⟨fun _ => ?_, fun c => absurd (nI_le (b := 999) hs (by omega)) c⟩⟩
  rw [show (64 : Int32) = nI 64 from rfl, pk_rem (by omega) (by omega) (by omega), pk_div (by omega) (by omega) (by omega), nI_clamp (by omega)]
  refine ⟨vp_in_nI (by omega) (by omega), fun c => ?_, fun c => ?_⟩
  · rw [sh_t _ (by omega)] at c
    have e : bw (wd j) s = false := c
    rw [e] at h; exact h
  · rw [sh_t _ (by omega)] at c
    have e : bw (wd j) s = true := by
      unfold bw
      cases hh : (wd j (s / 64)).toBitVec.getLsbD (s % 64) with
      | true => rfl
      | false => exact absurd hh c
    rw [e] at h; exact h
theorem sp_has_out {j : Nat} {x : Int32} {wd : Nat → Nat → Int64} {K : Int32 → Prop} (hx : x < 0 ∨ (999 : Int32) < x) (h : K 0) : wp_X2_has j x wd K := by
  unfold wp_X2_has
  refine ⟨fun _ => h, fun c => ⟨fun c2 => ?_, fun _ => h⟩⟩
  rcases hx with hx | hx
  · exact absurd hx c
  · rw [Int32.lt_iff_toInt_lt] at hx; rw [Int32.le_iff_toInt_le] at c2; omega
def shOK (w0 : Nat → Int64) (b : Nat) (w : Nat → Int64) (i : Nat) : Prop := ∀ u, u < 64 → (w i).toBitVec.getLsbD u = (bw w0 (64 * i + u) || (decide (b ≤ 64 * i + u) && bw w0 (64 * i + u - b)))
theorem bw_at (w : Nat → Int64) {i u : Nat} (hu : u < 64) : bw w (64 * i + u) = (w i).toBitVec.getLsbD u := by
  unfold bw
  rw [show (64 * i + u) / 64 = i by omega, show (64 * i + u) % 64 = u by omega]
theorem mv_A (w : Nat → Int64) {i far bits u : Nat} (hu : u < 64) (hb : bits < 64) (hi : far ≤ i) (hc : bits = 0 ∨ i = far) : ((w (i - far)).toBitVec <<< bits).getLsbD u = (decide (64 * far + bits ≤ 64 * i + u) && bw w (64 * i + u - (64 * far + bits))) := by
  rw [BitVec.getLsbD_shiftLeft]
  by_cases h : u < bits
  · have : ¬ 64 * far + bits ≤ 64 * i + u := by omega
    simp [h, this]
  · have e : 64 * i + u - (64 * far + bits) = 64 * (i - far) + (u - bits) := by omega
    rw [e, bw_at w (by omega)]
    have : 64 * far + bits ≤ 64 * i + u := by omega
    simp [h, hu, this]
theorem mv_B (w : Nat → Int64) {i far bits u : Nat} (hu : u < 64) (hb : bits < 64) (hb0 : 0 < bits) (hi : far < i) : (((w (i - far)).toBitVec <<< bits).getLsbD u || ((w (i - far - 1)).toBitVec >>> (64 - bits)).getLsbD u) = (decide (64 * far + bits ≤ 64 * i + u) && bw w (64 * i + u - (64 * far + bits))) := by
  rw [BitVec.getLsbD_shiftLeft, BitVec.getLsbD_ushiftRight]
  have hle : 64 * far + bits ≤ 64 * i + u := by omega
  by_cases h : u < bits
  · have e : 64 * i + u - (64 * far + bits) = 64 * (i - far - 1) + (64 - bits + u) := by omega
    rw [e, bw_at w (by omega)]
    simp [h, hle]
  · have e : 64 * i + u - (64 * far + bits) = 64 * (i - far) + (u - bits) := by omega
    rw [e, bw_at w (by omega)]
    have e2 : (w (i - far - 1)).toBitVec.getLsbD (64 - bits + u) = false := BitVec.getLsbD_of_ge _ _ (by omega)
    simp [h, hu, hle, e2]
set_option maxHeartbeats 1000000 in
theorem sp_addShifted_loop {j far bits : Nat} {wd : Nat → Nat → Int64} {K X : (Nat → Nat → Int64) → Prop} (hb : bits < 64) (hX : ∀ wd2, (∀ i, i ≠ j → wd2 i = wd i) → (∀ i, i < far → wd2 j i = wd j i) → (∀ i, far ≤ i → i < 16 → shOK (wd j) (64 * far + bits) (wd2 j) i) → X wd2) :
    ∀ (m : Nat) (wd2 : Nat → Nat → Int64), far + m ≤ 16 → (∀ i, i ≠ j → wd2 i = wd i) → (∀ i, i < far + m → wd2 j i = wd j i) → (∀ i, far + m ≤ i → i < 16 → shOK (wd j) (64 * far + bits) (wd2 j) i) → wp_X2_addShifted_19 j (nI far) (nI bits) K X (m + 1) (nI (far + m) - 1) wd2 := by
  intro m
  induction m with
  | zero =>
    intro wd2 hm h1 h2 h3
    unfold wp_X2_addShifted_19
    refine ⟨fun _ => hX wd2 h1 h2 h3, fun c => ?_⟩
    refine absurd ?_ c
    rcases nI_0le (far + 0) with e | ⟨k, e⟩
    · rw [e, show far = 0 by omega]; decide
    · rw [e, nI_p1]; exact nI_lt (by omega) (by omega)
  | succ m ih =>
    intro wd2 hm h1 h2 h3
    unfold wp_X2_addShifted_19
    rw [show far + (m + 1) = (far + m) + 1 by omega, nI_p1]
    refine ⟨fun c => absurd c (nI_nlt (by omega) (by omega)), fun _ => ?_⟩
    rw [pk_sub (by omega), show far + m - far = m by omega, nI_clamp (show m < 2 ^ 31 by omega), nI_clamp (show far + m < 2 ^ 31 by omega)]
    refine ⟨vp_in_nI (by omega) (by omega), ?_⟩
    have goal : ∀ y : Int64, (∀ u, u < 64 → y.toBitVec.getLsbD u = (decide (64 * far + bits ≤ 64 * (far + m) + u) && bw (wd j) (64 * (far + m) + u - (64 * far + bits)))) → (vp_in (nI (far + m)) 16 ∧ (vp_in (nI (far + m)) 16 ∧ wp_X2_addShifted_19 j (nI far) (nI bits) K X (m + 1) (nI (far + m) + (-1 : Int32)) (va_up wd2 j (vp_updL (wd2 j) (far + m) ((wd2 j (far + m)) ||| y))))) := by
      intro y hy
      have hin : vp_in (nI (far + m)) 16 := vp_in_nI (by omega) (by omega)
      refine ⟨hin, hin, ?_⟩
      rw [nI_m1]
      refine ih _ (by omega) (fun i hi => ?_) (fun i hi => ?_) (fun i hi1 hi2 => ?_)
      · rw [va_up_ne _ _ hi]; exact h1 i hi
      · rw [va_up_self, pk_uLn (by omega)]; exact h2 i (by omega)
      · rw [va_up_self]
        by_cases e : i = far + m
        · subst e
          intro u hu
          rw [pk_uLs, Int64.toBitVec_or, BitVec.getLsbD_or, hy u hu, h2 (far + m) (by omega), bw_at _ hu]
        · intro u hu
          rw [pk_uLn e]
          exact h3 i (by omega) hi2 u hu
    have hA : bits = 0 ∨ far + m = far → ∀ u, u < 64 → ((wd2 j m) <<< ((nI bits).toInt64 &&& 63)).toBitVec.getLsbD u = (decide (64 * far + bits ≤ 64 * (far + m) + u) && bw (wd j) (64 * (far + m) + u - (64 * far + bits))) := by
      intro hc u hu
      rw [sh_l _ hb, h2 m (by omega)]
      have := mv_A (wd j) (i := far + m) (far := far) (bits := bits) hu hb (by omega) hc
      rw [show far + m - far = m by omega] at this
      exact this
    unfold jn
    refine ⟨fun c => goal _ (hA (Or.inl ?_)), fun c => ⟨fun c2 => goal _ (hA (Or.inr ?_)), fun c2 => ⟨?_, ?_⟩⟩⟩
    · rcases Nat.eq_zero_or_pos bits with e | e
      · exact e
      · exact absurd c (nI_nle e (by omega))
    · rcases Nat.eq_zero_or_pos m with e | e
      · omega
      · exact absurd c2 (nI_ge (by omega) (by omega))
    · have hm0 : 0 < m := by
        rcases Nat.eq_zero_or_pos m with e | e
        · subst e; exact absurd (nI_le (Nat.le_refl _) (by omega)) c2
        · exact e
      obtain ⟨k, rfl⟩ : ∃ k, m = k + 1 := ⟨m - 1, by omega⟩
      rw [nI_p1]
      exact vp_in_nI (by omega) (by omega)
    · have hm0 : 0 < m := by
        rcases Nat.eq_zero_or_pos m with e | e
        · subst e; exact absurd (nI_le (Nat.le_refl _) (by omega)) c2
        · exact e
      have hb0 : 0 < bits := by
        rcases Nat.eq_zero_or_pos bits with e | e
        · subst e; exact absurd (by decide) c
        · exact e
      refine goal _ ?_
      intro u hu
      obtain ⟨k, rfl⟩ : ∃ k, m = k + 1 := ⟨m - 1, by omega⟩
      rw [nI_p1, nI_clamp (show k < 2 ^ 31 by omega), show (64 : Int32) = nI 64 from rfl, pk_sub (by omega), Int64.toBitVec_or, BitVec.getLsbD_or, sh_l _ hb, sh_r _ (by omega), h2 (k + 1) (by omega), h2 k (by omega)]
      have := mv_B (wd j) (i := far + (k + 1)) (far := far) (bits := bits) hu hb hb0 (by omega)
      rw [show far + (k + 1) - far = k + 1 by omega, show k + 1 - 1 = k by omega] at this
      exact this
theorem sp_addShifted {j b : Nat} {wd : Nat → Nat → Int64} {K : (Nat → Nat → Int64) → Prop} (hb : b < 100000) (h : ∀ wd2, (∀ i, i ≠ j → wd2 i = wd i) → (∀ s, s < 1024 → bw (wd2 j) s = (bw (wd j) s || (decide (b ≤ s) && bw (wd j) (s - b)))) → K wd2) : wp_X2_addShifted j (nI b) wd K := by
  unfold wp_X2_addShifted
  refine ⟨fun c => ?_, fun c => ?_⟩
  · rw [show (64 : Int32) = nI 64 from rfl, pk_rem (by omega) (by omega) (by omega), pk_div (by omega) (by omega) (by omega)]
    have hfin : ∀ wd2 : Nat → Nat → Int64, (∀ i, i ≠ j → wd2 i = wd i) → (∀ i, i < b / 64 → wd2 j i = wd j i) → (∀ i, b / 64 ≤ i → i < 16 → shOK (wd j) (64 * (b / 64) + b % 64) (wd2 j) i) → K wd2 := by
      intro wd2 h1 h2 h3
      refine h wd2 h1 (fun s hs => ?_)
      rw [show 64 * (b / 64) + b % 64 = b by omega] at h3
      by_cases hc : b / 64 ≤ s / 64
      · have := h3 (s / 64) hc (by omega) (s % 64) (by omega)
        rw [show 64 * (s / 64) + s % 64 = s by omega] at this
        exact this
      · have e : bw (wd2 j) s = bw (wd j) s := by unfold bw; rw [h2 _ (by omega)]
        have : ¬ b ≤ s := by omega
        rw [e]; simp [this]
    by_cases hf : b / 64 ≤ 16
    · refine ⟨16 - b / 64 + 1, ?_⟩
      have := sp_addShifted_loop (K := K) (X := fun wd2 => K wd2) (j := j) (far := b / 64) (bits := b % 64) (wd := wd) (by omega) hfin (16 - b / 64) wd (by omega) (fun _ _ => rfl) (fun _ _ => rfl) (fun i h1 h2 => by omega)
      rw [show b / 64 + (16 - b / 64) = 16 by omega] at this
      exact this
    · refine ⟨1, ?_⟩
      unfold wp_X2_addShifted_19
      refine ⟨fun _ => hfin wd (fun _ _ => rfl) (fun _ _ => rfl) (fun i h1 h2 => by omega), fun c2 => ?_⟩
      exact absurd (nI_lt (a := 15) (by omega) (by omega)) c2
  · have e : b = 0 := by
      rcases Nat.eq_zero_or_pos b with e | e
      · exact e
      · exact absurd (nI_lt (a := 0) e (by omega)) c
    subst e
    refine h wd (fun _ _ => rfl) (fun s hs => ?_)
    simp
