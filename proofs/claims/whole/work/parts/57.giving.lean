/-! giving -/
def jd (kj : Nat → Int32) (k : Nat) : Nat → Int32 := if kj k ≤ 0 then kj else upd kj k (kj k - 1)
def Gv (n m : Nat) (V : Nat → Nat) (kn : Nat → Int32) (L' : Nat) (T' : Nat → Nat) (ks' kj' kg' : Nat → Int32) : Nat → (Nat → Nat) → Nat → (Nat → Nat) → (Nat → Int32) → (Nat → Int32) → (Nat → Int32) → Prop
  | 0, _, L, T, ks, kj, kg => L = 0 ∧ L' = L ∧ T' = T ∧ ks' = ks ∧ kj' = kj ∧ kg' = kg
  | d + 1, w, L, T, ks, kj, kg => ∃ k, k < n ∧ kn k = 0 ∧ 0 < w k ∧ (∀ i, i < n → w i ≤ 20) ∧ (∀ i, i < n → 0 < w i → V i ≤ V k) ∧ 0 < L ∧ ((¬ kj k = 0 ∧ 1 ≤ T k ∧ V k ≤ L ∧ Gv n m V kn L' T' ks' kj' kg' d (st w k (w k - 1)) (L - V k) (st T k (T k - 1)) ks (jd kj k) (upd kg k (kg k + 1))) ∨ (kj k = 0 ∧ ((¬ Rc n V (spN kn (upd ks k 1) T 0) L ∧ L' = L ∧ T' = T ∧ ks' = upd ks k 1 ∧ kj' = upd kj k (-1) ∧ kg' = kg) ∨ ∃ f u, SPsel n m V T kn (upd ks k 1) L f ∧ Rc n V f L ∧ IsW n V kn f L u ∧ Rc n V (spN kn (upd ks k 1) T 0) L ∧ Gv n m V kn L' T' ks' kj' kg' d u L T (upd ks k 1) (upd kj k (-1)) kg)))
def Gr (n m : Nat) (V : Nat → Nat) (kn : Nat → Int32) (L : Nat) (T : Nat → Nat) (ks kj kg : Nat → Int32) (L' : Nat) (T' : Nat → Nat) (ks' kj' kg' : Nat → Int32) : Prop :=
  ((L' = L ∧ T' = T ∧ ks' = ks ∧ kj' = kj ∧ kg' = kg) ∧ (L = 0 ∨ ¬ Rc n V (spN kn ks T 0) L)) ∨ (0 < L ∧ ∃ f w, SPsel n m V T kn ks L f ∧ Rc n V f L ∧ IsW n V kn f L w ∧ Rc n V (spN kn ks T 0) L ∧ ∃ d, Gv n m V kn L' T' ks' kj' kg' d w L T ks kj kg)
theorem Gv_jam {n m k L L' : Nat} {V w T T' : Nat → Nat} {kn ks kj kg ks' kj' kg' : Nat → Int32} (h1 : k < n) (h2 : kn k = 0) (h3 : 0 < w k) (h4 : ∀ i, i < n → w i ≤ 20) (h5 : ∀ i, i < n → 0 < w i → V i ≤ V k) (h6 : 0 < L) (h7 : kj k = 0) (h : Gr n m V kn L T (upd ks k 1) (upd kj k (-1)) kg L' T' ks' kj' kg') : ∃ d, Gv n m V kn L' T' ks' kj' kg' d w L T ks kj kg := by
  rcases h with ⟨⟨e1, e2, e3, e4, e5⟩, g | g⟩ | ⟨_, f, u, a1, a2, a3, a4, d, a5⟩
  · omega
  · exact ⟨0 + 1, k, h1, h2, h3, h4, h5, h6, Or.inr ⟨h7, Or.inl ⟨g, e1, e2, e3, e4, e5⟩⟩⟩
  · exact ⟨d + 1, k, h1, h2, h3, h4, h5, h6, Or.inr ⟨h7, Or.inr ⟨f, u, a1, a2, a3, a4, a5⟩⟩⟩
theorem Gv_give {n m k L L' : Nat} {V w T T' : Nat → Nat} {kn ks kj kg ks' kj' kg' : Nat → Int32} (h1 : k < n) (h2 : kn k = 0) (h3 : 0 < w k) (h4 : ∀ i, i < n → w i ≤ 20) (h5 : ∀ i, i < n → 0 < w i → V i ≤ V k) (h6 : 0 < L) (h7 : ¬ kj k = 0) (h8 : 1 ≤ T k) (h9 : V k ≤ L) (h : ∃ d, Gv n m V kn L' T' ks' kj' kg' d (st w k (w k - 1)) (L - V k) (st T k (T k - 1)) ks (jd kj k) (upd kg k (kg k + 1))) : ∃ d, Gv n m V kn L' T' ks' kj' kg' d w L T ks kj kg := by
  obtain ⟨d, h⟩ := h
  exact ⟨d + 1, k, h1, h2, h3, h4, h5, h6, Or.inl ⟨h7, h8, h9, h⟩⟩
theorem st_same {w : Nat → Nat} {k : Nat} (i : Nat) : st w k (w k) i = w i := by
  by_cases e : i = k
  · subst e; exact st_s
  · exact st_n e
/-- THE WAY makes up the sum -/
theorem IsW.sum {n s : Nat} {V f w : Nat → Nat} {kn : Nat → Int32} (hv : ∀ i, i < n → V i ≤ 200) (hd : ∀ i j, i < n → j < n → V i = V j → i = j) (hz : ∀ k, k < n → ¬ kn k = 0 → f k = 0) (hre : Rc n V f s) (h : IsW n V kn f s w) : sm (fun i => w i * V i) n = s := by
  have key : ∀ d x, x + d = 201 → Hs n V w x ≤ s ∧ ∃ m, Cnt n V (thr V f x) (s - Hs n V w x) m := by
    intro d
    induction d with
    | zero =>
      intro x hx
      have e : Hs n V w x = 0 := by
        unfold Hs
        have z : ∀ {k : Nat}, sm (fun _ => 0) k = 0 := by
          intro k
          induction k with
          | zero => rfl
          | succ k ih => show sm (fun _ => 0) k + 0 = 0; rw [ih]
        rw [sm_congr (g := fun _ => 0) (fun i hi => by rw [if_neg (by have := hv i hi; omega)])]
        exact z
      rw [e]
      obtain ⟨m, hm⟩ := Cnt_Rc.mp hre
      exact ⟨Nat.zero_le _, m, (Cnt_congr (fun i hi => by unfold thr; rw [if_pos (by have := hv i hi; omega)])).mpr hm⟩
    | succ d ih =>
      intro x hx
      obtain ⟨a1, m, a2⟩ := ih (x + 1) (by omega)
      by_cases hk : ∃ k, k < n ∧ V k = x
      · obtain ⟨k, hk, rfl⟩ := hk
        have e1 : Hs n V w (V k) = Hs n V w (V k + 1) + w k * V k := by
          have := Hs_step (w := w) (u := w k) hk hd
          rw [Hs_congr (w := st w k (w k)) (w2 := w) (fun _ _ => Iff.rfl) (fun i hi _ => st_same i)] at this
          exact this
        by_cases hc : kn k = 0
        · obtain ⟨b1, b2, M, b3, b4, b5, b6⟩ := h.1 k hk hc
          rw [e1]
          refine ⟨by omega, M - w k, ?_⟩
          rw [show s - (Hs n V w (V k + 1) + w k * V k) = s - Hs n V w (V k + 1) - w k * V k by omega]
          exact b5
        · rw [e1, h.2 k hk hc, Nat.zero_mul, Nat.add_zero]
          refine ⟨a1, m, (Cnt_congr (fun i hi => ?_)).mp a2⟩
          by_cases e : i = k
          · subst e; unfold thr; rw [hz i hi hc, if_neg (Nat.lt_irrefl _), if_pos (by omega)]
          · have hne : ¬ V i = V k := fun q => e (hd i k hi hk q)
            unfold thr
            by_cases c : V i < V k
            · rw [if_pos c, if_pos (by omega)]
            · rw [if_neg c, if_neg (by omega)]
      · have hne : ∀ i, i < n → ¬ V i = x := fun i hi q => hk ⟨i, hi, q⟩
        have e1 : Hs n V w x = Hs n V w (x + 1) := Hs_congr (fun i hi => by have := hne i hi; omega) (fun _ _ _ => rfl)
        rw [e1]
        refine ⟨a1, m, (Cnt_congr (fun i hi => ?_)).mp a2⟩
        have := hne i hi
        unfold thr
        by_cases c : V i < x
        · rw [if_pos c, if_pos (by omega)]
        · rw [if_neg c, if_neg (by omega)]
  obtain ⟨a1, m, a2⟩ := key 201 0 rfl
  have e := (Cnt_0.mp ((Cnt_congr (fun i hi => by unfold thr; rw [if_neg (by omega)])).mp a2)).1
  have e2 : Hs n V w 0 = sm (fun i => w i * V i) n := by
    unfold Hs
    exact sm_congr (fun i hi => by rw [if_pos (Nat.zero_le _)])
  omega
def Wy (n : Nat) (V : Nat → Nat) (kn ks : Nat → Int32) (T : Nat → Nat) (L : Nat) (u : Nat → Nat) : Prop := (∀ i, i < n → u i ≤ spN kn ks T 0 i) ∧ sm (fun i => u i * V i) n = L
theorem IsW.wy {n m s : Nat} {V T f w : Nat → Nat} {kn ks : Nat → Int32} (hv : ∀ i, i < n → V i ≤ 200) (hd : ∀ i j, i < n → j < n → V i = V j → i = j) (h0 : SPsel n m V T kn ks s f) (hre : Rc n V f s) (h : IsW n V kn f s w) : Wy n V kn ks T s w := by
  obtain ⟨r, -, a, -, -⟩ := h0
  refine ⟨fun i hi => ?_, h.sum hv hd (fun k hk hc => by rw [a k hk]; unfold spN; rw [if_neg (by simp [gvs, hc])]) hre⟩
  by_cases hc : kn i = 0
  · have := (h.1 i hi hc).1
    rw [a i hi] at this
    exact Nat.le_trans this spN_mono
  · rw [h.2 i hi hc]; exact Nat.zero_le _
theorem Wy.at {n k L : Nat} {V u T : Nat → Nat} {kn ks : Nat → Int32} (h : Wy n V kn ks T L u) (hk : k < n) (hu : 0 < u k) : kn k = 0 ∧ ks k = 0 ∧ u k ≤ T k ∧ V k ≤ L := by
  have a := h.1 k hk
  unfold spN at a
  by_cases hg : gvs kn ks k = true
  · rw [if_pos hg] at a
    have hg2 := hg
    unfold gvs at hg2
    simp at hg2
    have e := sm_st (c := u) (V := V) (x := 0) hk
    have := h.2
    have e2 : V k ≤ u k * V k := Nat.le_mul_of_pos_left _ hu
    exact ⟨hg2.1, hg2.2, by omega, by omega⟩
  · rw [if_neg hg] at a; omega
theorem Wy.give {n k L : Nat} {V u T : Nat → Nat} {kn ks : Nat → Int32} (h : Wy n V kn ks T L u) (hk : k < n) (hu : 0 < u k) : Wy n V kn ks (st T k (T k - 1)) (L - V k) (st u k (u k - 1)) := by
  refine ⟨fun i hi => ?_, ?_⟩
  · have a := h.1 i hi
    by_cases e : i = k
    · subst e
      unfold spN at a ⊢
      rw [st_s, st_s]
      by_cases hg : gvs kn ks i = true
      · rw [if_pos hg] at a ⊢; omega
      · rw [if_neg hg] at a ⊢; omega
    · rw [st_n e]
      unfold spN at a ⊢
      rw [st_n e]; exact a
  · have e := sm_st (c := u) (V := V) (x := u k - 1) hk
    have := h.2
    have e2 : u k * V k = (u k - 1) * V k + V k := by
      rw [← Nat.succ_mul]; congr 1; omega
    omega
theorem KI.given {n : Nat} {V R T : Nat → Nat} {sz : Int32} {kv kn kr kt kb ks kg : Nat → Int32} (h : KI n V R T sz kv kn kr kt kb ks kg) {kg2 : Nat → Int32} (hx : ∀ i, n ≤ i → i < 6 → kg2 i = 0) : KI n V R T sz kv kn kr kt kb ks kg2 := by
  obtain ⟨h1, h2, h3, h4, h5, h6, h7⟩ := h
  exact ⟨h1, h2, h3, h4, h5, h6, fun i hi hi6 => ⟨(h7 i hi hi6).1, (h7 i hi hi6).2.1, (h7 i hi hi6).2.2.1, hx i hi hi6⟩⟩
theorem sp_gbw37 {n m k W : Nat} {V R u0 : Nat → Nat} {kv kn kr kb ks : Nat → Int32} {x3 : Int32} {Fin : Nat → (Nat → Nat) → (Nat → Int32) → (Nat → Int32) → (Nat → Int32) → Prop} {K X : Int32 → (Nat → Int32) → (Nat → Int32) → (Nat → Int32) → (Nat → Int32) → Prop} (hk : k < n) (hW : W ≤ 20)
    (hX : ∀ u L T kt kj kg, KI n V R T (nI n) kv kn kr kt kb ks kg → Wy n V kn ks T L u → L ≤ 999 → u k = 0 → (∀ i, i ≠ k → u i = u0 i) → (∀ L' T' ks' kj' kg', (∃ d, Gv n m V kn L' T' ks' kj' kg' d u L T ks kj kg) → Fin L' T' ks' kj' kg') → X (nI L) kt ks kj kg)
    (hJ : ∀ k L T kt kj kg, k < n → ks k = 0 → 0 < L → L ≤ 999 → KI n V R T (nI n) kv kn kr kt kb (upd ks k 1) kg → (∀ L' T' ks' kj' kg', Gr n m V kn L T (upd ks k 1) (upd kj k (-1)) kg L' T' ks' kj' kg' → Fin L' T' ks' kj' kg') → K (nI L) kt (upd ks k 1) (upd kj k (-1)) kg) :
    ∀ (d y : Nat) (u : Nat → Nat) (L : Nat) (T : Nat → Nat) (kt kj kg : Nat → Int32), y + d = W → u k = d → KI n V R T (nI n) kv kn kr kt kb ks kg → Wy n V kn ks T L u → L ≤ 999 → (∀ i, i ≠ k → u i = u0 i) → (∀ i, i < n → 0 < u i → V i ≤ V k) → (∀ L' T' ks' kj' kg', (∃ d, Gv n m V kn L' T' ks' kj' kg' d u L T ks kj kg) → Fin L' T' ks' kj' kg') → wp_X5_giveByWay_37 x3 k (nI W) kv K X (d + 1) (nI L) (nI y) kt ks kj kg := by
  intro d
  induction d with
  | zero =>
    intro y u L T kt kj kg h1 h2 h3 h4 h5 h6 h7 h8
    unfold wp_X5_giveByWay_37
    exact ⟨fun _ => hX u L T kt kj kg h3 h4 h5 h2 h6 h8, fun q => absurd (nI_le (by omega) (by omega)) q⟩
  | succ d ih =>
    intro y u L T kt kj kg h1 h2 h3 h4 h5 h6 h7 h8
    obtain ⟨-, hn, hv, hvd, hbb, hrt, hz⟩ := id h3
    unfold wp_X5_giveByWay_37
    refine ⟨fun q => absurd q (nI_ge (by omega) (by omega)), fun _ => ?_⟩
    obtain ⟨a1, a2, a3, a4⟩ := h4.at hk (by omega)
    obtain ⟨v1, v2, v3⟩ := hv k hk
    obtain ⟨t1, t2, t3, t4⟩ := hrt k (by omega)
    have hb : ∀ i, i < n → u i ≤ 20 := fun i hi => by
      have := h4.1 i hi
      have : spN kn ks T 0 i ≤ T i := spN_le
      have := hrt i (by omega)
      omega
    unfold wp_X0_release
    refine ⟨fun q => ?_, fun q => ⟨fun q2 => absurd rfl q2, fun _ => ?_⟩⟩
    · have key : wp_X5_giveByWay_37 x3 k (nI W) kv K X (d + 1) (nI L - kv k) (nI y + 1) (upd kt k (kt k - 1)) ks (jd kj k) (upd kg k (kg k + 1)) := by
        rw [v1, pk_sub a4, nI_1]
        refine ih (y + 1) (st u k (u k - 1)) (L - V k) (st T k (T k - 1)) _ _ _ (by omega) (by rw [st_s]; omega) ?_ (h4.give hk (by omega)) (by omega) (fun i hi => by rw [st_n hi]; exact h6 i hi) (fun i hi hu => h7 i hi ?_) (fun L' T' ks' kj' kg' hG => h8 L' T' ks' kj' kg' (Gv_give hk a1 (by omega) hb h7 (by omega) q (by omega) a4 hG))
        · refine KI.given (KI.tube h3 (t := T k - 1) ?_ (by omega)) (fun i hi hi6 => ?_)
          · rw [t3, show T k = T k - 1 + 1 by omega, nI_p1]; rfl
          · rw [pk_un (by omega)]; exact (hz i hi hi6).2.2.2
        · by_cases e : i = k
          · subst e; omega
          · rw [st_n e] at hu; exact hu
      unfold jn
      refine ⟨fun c => ⟨fun _ => ?_, fun q => absurd q (by decide)⟩, fun c => ⟨fun _ => ?_, fun q => absurd q (by decide)⟩⟩
      · have e : jd kj k = kj := if_pos c
        rw [e] at key; exact key
      · have e : jd kj k = upd kj k (kj k - 1) := if_neg c
        rw [e] at key; exact key
    · exact hJ k L T kt kj kg hk a2 (by omega) h5 (h3.stuck (Or.inr rfl)) (fun L' T' ks' kj' kg' hG => h8 L' T' ks' kj' kg' (Gv_jam hk a1 (by omega) hb h7 (by omega) q hG))
theorem sp_gbw12 {n m : Nat} {V R w pm : Nat → Nat} {kv kn kr kb ks kw : Nat → Int32} {Fin : Nat → (Nat → Nat) → (Nat → Int32) → (Nat → Int32) → (Nat → Int32) → Prop} {K X : Int32 → (Nat → Int32) → (Nat → Int32) → (Nat → Int32) → (Nat → Int32) → Prop} (hpm : PMI n V pm) (hkw : ∀ k, k < n → kw k = nI (w k))
    (hX : ∀ T kt kj kg, KI n V R T (nI n) kv kn kr kt kb ks kg → Fin 0 T ks kj kg → X (nI 0) kt ks kj kg)
    (hJ : ∀ k L T kt kj kg, k < n → ks k = 0 → 0 < L → L ≤ 999 → KI n V R T (nI n) kv kn kr kt kb (upd ks k 1) kg → (∀ L' T' ks' kj' kg', Gr n m V kn L T (upd ks k 1) (upd kj k (-1)) kg L' T' ks' kj' kg' → Fin L' T' ks' kj' kg') → K (nI L) kt (upd ks k 1) (upd kj k (-1)) kg) :
    ∀ (t : Nat) (u : Nat → Nat) (L : Nat) (T : Nat → Nat) (kt kj kg : Nat → Int32), t ≤ n → KI n V R T (nI n) kv kn kr kt kb ks kg → Wy n V kn ks T L u → L ≤ 999 → (∀ p, p < t → u (pm p) = w (pm p)) → (∀ i, i < n → 0 < u i → ∃ p, p < t ∧ pm p = i) → (∀ L' T' ks' kj' kg', (∃ d, Gv n m V kn L' T' ks' kj' kg' d u L T ks kj kg) → Fin L' T' ks' kj' kg') → wp_X5_giveByWay_12 pm kv kw K X (t + 1) (nI L) (nI t - 1) kt ks kj kg := by
  intro t
  induction t with
  | zero =>
    intro u L T kt kj kg h1 h2 h3 h4 h5 h6 h7
    unfold wp_X5_giveByWay_12
    refine ⟨fun _ => ?_, fun q => absurd nI_n1 q⟩
    have e : L = 0 := by
      rw [← h3.2]
      have z : ∀ {k : Nat}, sm (fun _ => 0) k = 0 := by
        intro k
        induction k with
        | zero => rfl
        | succ k ih => show sm (fun _ => 0) k + 0 = 0; rw [ih]
      rw [sm_congr (g := fun _ => 0) (fun i hi => ?_)]
      · exact z
      · rcases Nat.eq_zero_or_pos (u i) with e | e
        · rw [e, Nat.zero_mul]
        · obtain ⟨p, hp, -⟩ := h6 i hi e; omega
    subst e
    exact hX T kt kj kg h2 (h7 0 T ks kj kg ⟨0, rfl, rfl, rfl, rfl, rfl, rfl⟩)
  | succ t ih =>
    intro u L T kt kj kg h1 h2 h3 h4 h5 h6 h7
    obtain ⟨-, hn, hv, hvd, hbb, hrt, hz⟩ := id h2
    unfold wp_X5_giveByWay_12
    have hp := hpm.1 t (by omega)
    rw [nI_p1, nI_clamp (show t < 2 ^ 31 by omega), hkw _ hp, nI_m1]
    refine ⟨fun q => absurd q (nI_pos (by omega)), fun _ => ⟨vp_in_nI (by omega) (by omega), by omega, w (pm t) + 1, ?_⟩⟩
    have hW : w (pm t) ≤ 20 := by
      rw [← h5 t (by omega)]
      have := h3.1 _ hp
      have : spN kn ks T 0 (pm t) ≤ T (pm t) := spN_le
      have := hrt (pm t) (by omega)
      omega
    refine sp_gbw37 (u0 := u) hp hW (fun u2 L2 T2 kt2 kj2 kg2 g1 g2 g3 g4 g5 g6 => ih u2 L2 T2 kt2 kj2 kg2 (by omega) g1 g2 g3 (fun p hpt => ?_) (fun i hi hu => ?_) g6) hJ (w (pm t)) 0 u L T kt kj kg (by omega) (h5 t (by omega)) h2 h3 h4 (fun _ _ => rfl) (fun i hi hu => ?_) h7
    · rw [g5 _ (fun e => by have := hpm.2.1 p t hpt (by omega); rw [e] at this; omega)]
      exact h5 p (by omega)
    · by_cases e : i = pm t
      · subst e; omega
      · rw [g5 i e] at hu
        obtain ⟨p, q1, q2⟩ := h6 i hi hu
        refine ⟨p, ?_, q2⟩
        by_cases e2 : p = t
        · subst e2; exact absurd q2.symm e
        · omega
    · obtain ⟨p, q1, q2⟩ := h6 i hi hu
      rw [← q2]
      by_cases e2 : p = t
      · rw [e2]; exact Nat.le_refl _
      · exact Nat.le_of_lt (hpm.2.1 p t (by omega) (by omega))
def sc (ks : Nat → Int32) (n : Nat) : Nat := sm (fun i => if ks i = 0 then 0 else 1) n
theorem sc_up {ks : Nat → Int32} {n k : Nat} (hk : k < n) (h : ks k = 0) : sc (upd ks k 1) n = sc ks n + 1 := by
  unfold sc
  have := sm_one (f := fun i => if upd ks k 1 i = 0 then 0 else 1) (g := fun i => if ks i = 0 then 0 else 1) (k := k) (fun i hi => by simp only [pk_un hi]) hk
  simp only [pk_us, h] at this
  simpa using this
theorem sc_all {ks : Nat → Int32} : ∀ {n : Nat}, sc ks n ≤ n ∧ (n ≤ sc ks n → ∀ i, i < n → ¬ ks i = 0)
  | 0 => ⟨Nat.le_refl _, fun _ i hi => by omega⟩
  | n + 1 => by
    obtain ⟨a, b⟩ := sc_all (ks := ks) (n := n)
    have e : sc ks (n + 1) = sc ks n + (if ks n = 0 then 0 else 1) := rfl
    rw [e]
    by_cases c : ks n = 0
    · rw [if_pos c]; exact ⟨by omega, fun q => by omega⟩
    · rw [if_neg c]
      refine ⟨by omega, fun q i hi => ?_⟩
      by_cases e2 : i = n
      · subst e2; exact c
      · exact b (by omega) i (by omega)
theorem sp_giveOut11 {n m : Nat} {V R pm : Nat → Nat} {kv kn kr kb : Nat → Int32} {x1 : Int32} {Fin : Nat → (Nat → Nat) → (Nat → Int32) → (Nat → Int32) → (Nat → Int32) → Prop} {K : Int32 → (Nat → Int32) → (Nat → Int32) → (Nat → Int32) → (Nat → Int32) → (Nat → Int32) → (Nat → Nat → Int64) → (Nat → Nat → Int32) → (Nat → Int32) → Int32 → Prop} {X : Int32 → (Nat → Int32) → (Nat → Int32) → (Nat → Int32) → (Nat → Int32) → (Nat → Int32) → (Nat → Nat → Int64) → (Nat → Nat → Int32) → Prop} (hpm : PMI n V pm) (hm : m ≤ 1)
    (hX : ∀ L T kt ks kj kw kg wd fw, KI n V R T (nI n) kv kn kr kt kb ks kg → FWI fw → L ≤ 999 → Fin L T ks kj kg → X (nI L) kt ks kj kw kg wd fw) :
    ∀ (d y L : Nat) (T : Nat → Nat) (kt ks kj kw kg : Nat → Int32) (wd : Nat → Nat → Int64) (fw : Nat → Nat → Int32), y + d = 6 → KI n V R T (nI n) kv kn kr kt kb ks kg → FWI fw → L ≤ 999 → (L = 0 ∨ y ≤ sc ks n) → (∀ L' T' ks' kj' kg', Gr n m V kn L T ks kj kg L' T' ks' kj' kg' → Fin L' T' ks' kj' kg') → wp_X5_giveOut_11 x1 (nI n) pm kv kn (nI m) K X (d + 1) (nI L) (nI y) kt ks kj kw kg wd fw := by
  intro d
  induction d with
  | zero =>
    intro y L T kt ks kj kw kg wd fw h1 h2 h3 h4 h5 h6
    obtain ⟨-, hn, hv, hvd, hbb, hrt, hz⟩ := id h2
    unfold wp_X5_giveOut_11
    refine ⟨fun _ => hX L T kt ks kj kw kg wd fw h2 h3 h4 (h6 L T ks kj kg (Or.inl ⟨⟨rfl, rfl, rfl, rfl, rfl⟩, ?_⟩)), fun q => absurd (nI_le (a := 6) (by omega) (by omega)) q⟩
    rcases h5 with e | e
    · exact Or.inl e
    · by_cases e0 : L = 0
      · exact Or.inl e0
      · refine Or.inr (fun hre => e0 (Rc_0.mp ((Rc_congr (fun i hi => ?_)).mp hre)))
        have := sc_all (ks := ks) (n := n)
        have := this.2 (by omega) i hi
        unfold spN
        rw [if_neg (by simp [gvs, this])]
  | succ d ih =>
    intro y L T kt ks kj kw kg wd fw h1 h2 h3 h4 h5 h6
    obtain ⟨-, hn, hv, hvd, hbb, hrt, hz⟩ := id h2
    unfold wp_X5_giveOut_11
    refine ⟨fun q => absurd q (nI_ge (b := 6) (by omega) (by omega)), fun _ => ⟨fun q => ?_, fun q => ?_⟩⟩
    · exact hX L T kt ks kj kw kg wd fw h2 h3 h4 (h6 L T ks kj kg (Or.inl ⟨⟨rfl, rfl, rfl, rfl, rfl⟩, Or.inl ((nI_le0 (by omega)).mp q)⟩))
    · have hL : 0 < L := by
        rcases Nat.eq_zero_or_pos L with e | e
        · exact absurd ((nI_le0 (by omega)).mpr e) q
        · exact e
      refine sp_plan h2 hpm h3 hm h4 (fun hno kw2 wd2 fw2 hf => ⟨fun _ => hX L T kt ks kj kw2 kg wd2 fw2 h2 hf h4 (h6 L T ks kj kg (Or.inl ⟨⟨rfl, rfl, rfl, rfl, rfl⟩, Or.inr hno⟩)), fun q => absurd rfl q⟩) (fun kw2 wd2 fw2 f w hre hf e1 e2 e3 e4 => ⟨fun q => absurd q (by decide), fun _ => ?_⟩)
      unfold wp_X5_giveByWay
      rw [nI_1]
      refine ⟨n + 1, sp_gbw12 (R := R) (kr := kr) (kb := kb) (kn := kn) (Fin := Fin) (m := m) hpm e4 (fun T2 kt2 kj2 kg2 g1 g2 => ?_) (fun k L2 T2 kt2 kj2 kg2 g1 g2 g3 g4 g5 g6 => ?_) n w L T kt kj kg (Nat.le_refl _) h2 (IsW.wy (fun i hi => (hv i hi).2.2) hvd e1 e2 e3) h4 (fun _ _ => rfl) (fun i hi _ => hpm.2.2 i hi) (fun L' T' ks' kj' kg' hG => h6 L' T' ks' kj' kg' (Or.inr ⟨hL, f, w, e1, e2, e3, hre, hG⟩))⟩
      · refine ih (y + 1) 0 T2 kt2 ks kj2 kw2 kg2 wd2 fw2 (by omega) g1 hf (by omega) (Or.inl rfl) (fun L' T' ks' kj' kg' hG => ?_)
        rcases hG with ⟨⟨r1, r2, r3, r4, r5⟩, -⟩ | ⟨hh, -⟩
        · subst r1; subst r2; subst r3; subst r4; subst r5; exact g2
        · omega
      · refine ih (y + 1) L2 T2 kt2 (upd ks k 1) (upd kj2 k (-1)) kw2 kg2 wd2 fw2 (by omega) g5 hf g4 (Or.inr ?_) g6
        rw [sc_up g1 g2]
        rcases h5 with e | e
        · omega
        · omega
theorem sp_giveOut {n m L : Nat} {V R T pm : Nat → Nat} {kv kn kr kt kb ks kj kw kg bk : Nat → Int32} {wd : Nat → Nat → Int64} {fw : Nat → Nat → Int32} {ow : Int32} {K : Int32 → (Nat → Int32) → (Nat → Int32) → (Nat → Int32) → (Nat → Int32) → (Nat → Int32) → (Nat → Nat → Int64) → (Nat → Nat → Int32) → (Nat → Int32) → Int32 → Prop} (hpm : PMI n V pm) (hm : m ≤ 1) (hK : KI n V R T (nI n) kv kn kr kt kb ks kg) (hf : FWI fw) (hL : L ≤ 999)
    (h : ∀ kg1 L' T' kt' ks' kj' kw' kg' wd' fw', (∀ i, i < 6 → kg1 i = 0) → KI n V R T' (nI n) kv kn kr kt' kb ks' kg' → FWI fw' → L' ≤ 999 → Gr n m V kn L T ks kj kg1 L' T' ks' kj' kg' → K (isum (fun i => kg' i) n) kt' ks' kj' kw' kg' wd' fw' (upd bk 2 (bk 2 + (nI L - nI L'))) (ow + nI L')) : wp_X5_giveOut (nI L) (nI n) pm kv kn kt ks kj kw kg wd fw bk (nI m) ow K := by
  obtain ⟨-, hn, hv, hvd, hbb, hrt, hz⟩ := id hK
  unfold wp_X5_giveOut wp_X3_forgetGiven
  refine ⟨n + 1, sp_forget_loop hn (fun kg1 g1 g2 => ⟨7, ?_⟩) n 0 kg (by omega) (fun i hi => by omega) (fun _ _ => rfl)⟩
  have g3 : ∀ i, i < 6 → kg1 i = 0 := fun i hi => by
    rcases Nat.lt_or_ge i n with q | q
    · exact g1 i q
    · rw [g2 i q]; exact (hz i q hi).2.2.2
  refine sp_giveOut11 (R := R) (kr := kr) (kb := kb) (Fin := fun L' T' ks' kj' kg' => Gr n m V kn L T ks kj kg1 L' T' ks' kj' kg') hpm hm (fun L' T' kt' ks' kj' kw' kg' wd' fw' e1 e2 e3 e4 => ⟨vp_in_l (by decide), vp_in_l (by decide), sp_given hn ?_⟩) 6 0 L T kt ks kj kw kg1 wd fw (by omega) (hK.given (fun i _ hi => g3 i hi)) hf hL (Or.inr (Nat.zero_le _)) (fun _ _ _ _ _ hG => hG)
  exact h kg1 L' T' kt' ks' kj' kw' kg' wd' fw' g3 e1 e2 e3 e4
