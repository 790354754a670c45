/-! THE WAY, and that the class's choice is it -/
def Hs (n : Nat) (V w : Nat → Nat) (x : Nat) : Nat := sm (fun i => if x ≤ V i then w i * V i else 0) n
theorem Hs_congr {n : Nat} {V w w2 : Nat → Nat} {x y : Nat} (h : ∀ i, i < n → (x ≤ V i ↔ y ≤ V i)) (h2 : ∀ i, i < n → y ≤ V i → w i = w2 i) : Hs n V w x = Hs n V w2 y := by
  unfold Hs
  refine sm_congr (fun i hi => ?_)
  by_cases c : y ≤ V i
  · rw [if_pos ((h i hi).mpr c), if_pos c, h2 i hi c]
  · rw [if_neg (fun q => c ((h i hi).mp q)), if_neg c]
theorem sm_one {f g : Nat → Nat} {k : Nat} (h : ∀ i, i ≠ k → f i = g i) : ∀ {n : Nat}, k < n → sm f n + g k = sm g n + f k
  | 0, hk => by omega
  | n + 1, hk => by
    show sm f n + f n + g k = sm g n + g n + f k
    by_cases e : k = n
    · subst e
      rw [sm_congr (f := f) (g := g) (fun i hi => h i (by omega))]
      omega
    · have := sm_one h (show k < n by omega)
      rw [h n (by omega)]
      omega
theorem Hs_step {n k u : Nat} {V w : Nat → Nat} (hk : k < n) (hd : ∀ i j, i < n → j < n → V i = V j → i = j) : Hs n V (st w k u) (V k) = Hs n V w (V k + 1) + u * V k := by
  have e : Hs n V (st w k u) (V k) = sm (fun i => if i = k then u * V k else if V k + 1 ≤ V i then w i * V i else 0) n := by
    unfold Hs
    refine sm_congr (fun i hi => ?_)
    by_cases q : i = k
    · subst q; rw [st_s, if_pos (Nat.le_refl _), if_pos rfl]
    · rw [st_n q, if_neg q]
      have hne : ¬ V i = V k := fun t => q (hd i k hi hk t)
      by_cases c : V k + 1 ≤ V i
      · rw [if_pos c, if_pos (by omega)]
      · rw [if_neg c, if_neg (by omega)]
  rw [e]
  have := sm_one (f := fun i => if i = k then u * V k else if V k + 1 ≤ V i then w i * V i else 0) (g := fun i => if V k + 1 ≤ V i then w i * V i else 0) (k := k) (fun i hi => by simp [hi]) hk
  simp only [if_pos rfl] at this
  rw [if_neg (show ¬ V k + 1 ≤ V k by omega)] at this
  unfold Hs
  simpa using this
def IsW (n : Nat) (V : Nat → Nat) (kn : Nat → Int32) (sp : Nat → Nat) (s : Nat) (w : Nat → Nat) : Prop := (∀ k, k < n → kn k = 0 → ChOK n V (thr V sp (V k)) k (sp k) (s - Hs n V w (V k + 1)) (w k)) ∧ (∀ k, k < n → ¬ kn k = 0 → w k = 0)
theorem IsW.un {n s : Nat} {V sp sp2 w w2 : Nat → Nat} {kn : Nat → Int32} (hv : ∀ i, i < n → V i ≤ 200) (hsp : ∀ i, i < n → sp i = sp2 i) (h1 : IsW n V kn sp s w) (h2 : IsW n V kn sp2 s w2) : ∀ k, k < n → w k = w2 k := by
  have key : ∀ d k, k < n → 200 < V k + d → w k = w2 k := by
    intro d
    induction d with
    | zero => intro k hk h; have := hv k hk; omega
    | succ d ih =>
      intro k hk h
      by_cases c : kn k = 0
      · have a := h1.1 k hk c
        have b := h2.1 k hk c
        have e : Hs n V w (V k + 1) = Hs n V w2 (V k + 1) := Hs_congr (fun _ _ => Iff.rfl) (fun i hi hle => ih i hi (by omega))
        rw [e] at a
        rw [← hsp k hk] at b
        exact a.un (ChOK_congr (fun i hi => by unfold thr; rw [hsp i hi]) b)
      · rw [h1.2 k hk c, h2.2 k hk c]
  intro k hk
  exact key 201 k hk (by omega)
theorem sp_choose99 {n r s : Nat} {V T pm : Nat → Nat} {kv kn kt ks : Nat → Int32} {fw : Nat → Nat → Int32} {K : Int32 → (Nat → Int32) → (Nat → Nat → Int32) → Prop} {X : Int32 → (Nat → Int32) → Prop} (hKN : KN n V T (nI n) kv kt) (hd : ∀ i j, i < n → j < n → V i = V j → i = j) (hpm : PMI n V pm) (hs : s ≤ 999) (hr : r ≤ 20)
    (hrow : ∀ j, j < n → RowOK 1000 n V (thr V (spN kn ks T r) (V (pm j))) s (fw j))
    (hX : ∀ (kw2 : Nat → Int32) (w : Nat → Nat), (∀ p, p < n → kw2 (pm p) = nI (w (pm p)) ∧ ChOK n V (thr V (spN kn ks T r) (V (pm p))) (pm p) (spN kn ks T r (pm p)) (s - Hs n V w (V (pm p) + 1)) (w (pm p))) → X 0 kw2) :
    ∀ (t L : Nat) (kw2 : Nat → Int32) (w : Nat → Nat), t ≤ n → L + Hs n V w (xat n V pm t) = s → (∃ m, Cnt n V (thr V (spN kn ks T r) (xat n V pm t)) L m) → (∀ p, t ≤ p → p < n → kw2 (pm p) = nI (w (pm p)) ∧ ChOK n V (thr V (spN kn ks T r) (V (pm p))) (pm p) (spN kn ks T r (pm p)) (s - Hs n V w (V (pm p) + 1)) (w (pm p))) → wp_X4_choose_99 (nI r) pm kv kn kt ks fw K X (t + 1) (nI L) (nI t - 1) kw2 := by
  obtain ⟨-, hn, hv, ht⟩ := hKN
  have hsp : ∀ i, i < n → spN kn ks T r i ≤ 20 := fun i hi => Nat.le_trans spN_le (ht i hi).2
  intro t
  induction t with
  | zero =>
    intro L kw2 w htn h1 h2 h3
    unfold wp_X4_choose_99
    refine ⟨fun _ => ?_, fun q => absurd nI_n1 q⟩
    have hz : ∀ i, i < n → thr V (spN kn ks T r) (xat n V pm 0) i = (fun _ => 0) i := by
      intro i hi
      unfold thr xat
      rw [if_pos (show 0 < n by omega)]
      obtain ⟨p, hp, rfl⟩ := hpm.2.2 i hi
      rw [if_neg (fun q => by have := (hpm.lt_iff hp (show 0 < n by omega)).mp q; omega)]
    obtain ⟨m, hm⟩ := h2
    have e := (Cnt_0.mp ((Cnt_congr hz).mp hm)).1
    rw [e]
    exact hX kw2 w (fun p hp => h3 p (by omega) hp)
  | succ t ih =>
    intro L kw2 w htn h1 h2 h3
    unfold wp_X4_choose_99
    have hp := hpm.1 t (by omega)
    have hin : vp_in (nI t) 6 := vp_in_nI (by omega) (by omega)
    obtain ⟨v1, v2, v3⟩ := hv _ hp
    rw [nI_p1, nI_clamp (show t < 2 ^ 31 by omega)]
    refine ⟨fun q => absurd q (nI_pos (by omega)), fun _ => ⟨hin, by omega, hin, ?_⟩⟩
    refine sp_spare (ht _ hp).1 (by have := (ht _ hp).2; omega) (by omega) ?_
    rw [v1]
    have hre : ∃ m, Cnt n V (st (thr V (spN kn ks T r) (V (pm t))) (pm t) (spN kn ks T r (pm t))) L m := by
      obtain ⟨m, hm⟩ := h2
      exact ⟨m, (Cnt_congr (thr_step hpm (fun i hi => (hv i hi).2.2) hd (by omega))).mpr hm⟩
    refine sp_most (sum := s) hs (by omega) hn hp thr_self v2 v3 (hsp _ hp) (fun i hi => Nat.le_trans thr_le (hsp i hi)) (hrow t (by omega)) hre (fun u hu => ?_)
    have eH : Hs n V w (xat n V pm (t + 1)) = Hs n V w (V (pm t) + 1) := by
      refine Hs_congr (fun i hi => ?_) (fun _ _ _ => rfl)
      obtain ⟨p, hpp, rfl⟩ := hpm.2.2 i hi
      unfold xat
      have b := hpm.lt_iff (p := t) (t := p) (by omega) hpp
      by_cases c : t + 1 < n
      · rw [if_pos c]
        have a := hpm.lt_iff (p := p) (t := t + 1) hpp c
        constructor
        · intro q
          rcases Nat.lt_or_ge p (t + 1) with g | g
          · have := a.mpr g; omega
          · have := b.mpr (by omega); omega
        · intro q
          have g2 := b.mp (by omega)
          rcases Nat.lt_or_ge (V (pm p)) (V (pm (t + 1))) with g | g
          · have := a.mp g; omega
          · exact g
      · rw [if_neg c]
        have hle := (hv (pm p) hi).2.2
        constructor
        · intro q; omega
        · intro q; have := b.mp (by omega); omega
    rw [eH] at h1
    have hus : u * V (pm t) ≤ L := hu.2.1
    rw [pk_us, pk_mul, pk_sub hus, nI_m1]
    have hne : ∀ p, t < p → p < n → pm p ≠ pm t := fun p h1 h2 e => by have := hpm.2.1 t p h1 h2; rw [e] at this; omega
    refine ih (L - u * V (pm t)) _ (st w (pm t) u) (by omega) ?_ ?_ (fun p hp1 hp2 => ?_)
    · unfold xat
      rw [if_pos (show t < n by omega), Hs_step hp hd]
      omega
    · obtain ⟨-, -, M, -, -, hc, -⟩ := hu
      unfold xat
      rw [if_pos (show t < n by omega)]
      exact ⟨_, hc⟩
    · by_cases e : p = t
      · subst e
        rw [pk_us, st_s]
        refine ⟨rfl, ?_⟩
        have e2 : Hs n V (st w (pm p) u) (V (pm p) + 1) = Hs n V w (V (pm p) + 1) := Hs_congr (fun _ _ => Iff.rfl) (fun i hi hle => st_n (fun q => by subst q; omega))
        rw [e2, show s - Hs n V w (V (pm p) + 1) = L by omega]
        exact hu
      · have hpp := hne p (by omega) hp2
        rw [pk_un hpp, st_n hpp]
        obtain ⟨a, b⟩ := h3 p (by omega) hp2
        refine ⟨a, ?_⟩
        have e2 : Hs n V (st w (pm t) u) (V (pm p) + 1) = Hs n V w (V (pm p) + 1) := by
          refine Hs_congr (fun _ _ => Iff.rfl) (fun i hi hle => st_n (fun q => ?_))
          subst q
          have := hpm.2.1 t p (by omega) hp2
          omega
        rw [e2]
        exact b
theorem sp_choose {n r s : Nat} {V T pm : Nat → Nat} {kv kn kt ks kw : Nat → Int32} {fw : Nat → Nat → Int32} {K : Int32 → (Nat → Int32) → (Nat → Nat → Int32) → Prop} (hKN : KN n V T (nI n) kv kt) (hd : ∀ i j, i < n → j < n → V i = V j → i = j) (hpm : PMI n V pm) (hs : s ≤ 999) (hr : r ≤ 20) (hfw : FWI fw) (hre : Rc n V (spN kn ks T r) s)
    (hK : ∀ kw2 fw2 w, FWI fw2 → IsW n V kn (spN kn ks T r) s w → (∀ k, k < n → kw2 k = nI (w k)) → K 1 kw2 fw2) : wp_X4_choose (nI s) (nI r) (nI n) pm kv kn kt ks kw fw K := by
  obtain ⟨-, hn, hv, ht⟩ := id hKN
  unfold wp_X4_choose
  refine ⟨fun q => absurd q (nI_pos (by omega)), fun _ => ⟨fun _ => ⟨max n 1 - 1 + 1, ?_⟩, fun q => absurd (nI_le (b := 999) hs (by omega)) q⟩⟩
  refine sp_choose16 hKN hd hpm hs hr hfw (fun fw2 h1 h2 => ⟨n + 1, ?main⟩) (max n 1 - 1) 1 fw (by omega) (Nat.le_refl _) rfl (fun i hi hin => ?row0)
  case main =>
    have z201 : ∀ i, i < n → thr V (spN kn ks T r) (xat n V pm n) i = spN kn ks T r i := fun i hi => by
      unfold thr xat
      rw [if_neg (Nat.lt_irrefl n), if_pos (by have := (hv i hi).2.2; omega)]
    have hH : Hs n V (fun _ => 0) (xat n V pm n) = 0 := by
      unfold Hs
      have z : ∀ {k : Nat}, sm (fun _ => 0) k = 0 := by
        intro k
        induction k with
        | zero => rfl
        | succ k ih => show sm (fun _ => 0) k + 0 = 0; rw [ih]
      rw [sm_congr (g := fun _ => 0) (fun i hi => by simp)]
      exact z
    refine sp_choose99 (r := r) (s := s) hKN hd hpm hs hr h2 (fun kw2 w hw => ⟨fun q => absurd rfl q, fun _ => ?fin⟩) n s kw (fun _ => 0) (Nat.le_refl _) (by rw [hH]; rfl) ?re (fun p hp1 hp2 => by omega)
    case fin =>
      refine hK kw2 fw2 w (fun s hs => by rw [h1]; exact hfw s hs) ⟨fun k hk hc => ?_, fun k hk hc => ?_⟩ (fun k hk => ?_)
      · obtain ⟨p, hp, rfl⟩ := hpm.2.2 k hk
        exact (hw p hp).2
      · obtain ⟨p, hp, rfl⟩ := hpm.2.2 k hk
        have := (hw p hp).2.1
        have e : spN kn ks T r (pm p) = 0 := by unfold spN; rw [if_neg (by simp [gvs, hc])]
        omega
      · obtain ⟨p, hp, rfl⟩ := hpm.2.2 k hk
        exact (hw p hp).1
    case re =>
      obtain ⟨m, hm⟩ := Cnt_Rc.mp hre
      exact ⟨m, (Cnt_congr z201).mpr hm⟩
  case row0 =>
    have e : i = 0 := by omega
    subst e
    have hz : ∀ i, i < n → (fun _ => 0) i = thr V (spN kn ks T r) (V (pm 0)) i := by
      intro i hi
      unfold thr
      obtain ⟨p, hp, rfl⟩ := hpm.2.2 i hi
      rw [if_neg (fun q => by have := (hpm.lt_iff hp hin).mp q; omega)]
    intro s2 hs2
    rw [hfw s2 (by omega)]
    by_cases e0 : s2 = 0
    · subst e0
      refine Or.inl ⟨0, ⟨(Cnt_congr hz).mp (Cnt_0.mpr ⟨rfl, rfl⟩), fun m2 _ => Nat.zero_le _⟩, rfl⟩
    · rw [if_neg e0]
      exact Or.inr ⟨fun m hm => e0 (Cnt_0.mp ((Cnt_congr hz).mpr hm)).1, rfl⟩
