/-! taking -/
def T2f (kn : Nat → Int32) (R T : Nat → Nat) (k : Nat) : Nat → Nat := if kn k = 0 ∧ T k < R k then st T k (T k + 1) else T
theorem Qw_iff {f : Nat → Int64} {n k : Nat} {V R T : Nat → Nat} {kn ks : Nat → Int32} {fit : Int32} (hb : ∀ s, s < 1024 → (bw f s = true ↔ Rc n V (spN kn ks T 0) s)) (hk : k < n) (hV : 1 ≤ V k) (hf : fit = 0 ∧ ¬ T k < R k ∨ fit = 1 ∧ T k < R k) {s : Nat} (hs : s < 1024) : Qw f (ownV fit kn ks k (V k)) s ↔ Rc n V (spN kn ks (T2f kn R T k) 0) s := by
  by_cases hg : gvs kn ks k = true
  · have hkn : kn k = 0 := by
      unfold gvs at hg
      simp at hg
      exact hg.1
    rcases hf with ⟨e, hf⟩ | ⟨e, hf⟩
    · subst e
      have e1 : ownV 0 kn ks k (V k) = 0 := by unfold ownV; rw [if_pos rfl]
      have e2 : T2f kn R T k = T := by unfold T2f; rw [if_neg (fun q => hf q.2)]
      rw [e1, e2, ← hb s hs]
      unfold Qw
      constructor
      · rintro (q | ⟨q, -⟩)
        · exact q
        · omega
      · exact Or.inl
    · subst e
      have e1 : ownV 1 kn ks k (V k) = V k := by unfold ownV; rw [if_neg (by decide), if_pos hg]
      have e2 : T2f kn R T k = st T k (T k + 1) := by unfold T2f; rw [if_pos ⟨hkn, hf⟩]
      rw [e1, e2]
      have e3 : Rc n V (spN kn ks (st T k (T k + 1)) 0) s ↔ Rc n V (st (spN kn ks T 0) k (spN kn ks T 0 k + 1)) s := by
        refine Rc_congr (fun i hi => ?_)
        by_cases q : i = k
        · subst q; rw [st_s]; unfold spN; rw [if_pos hg, if_pos hg, st_s]; rfl
        · rw [st_n q]; unfold spN; rw [st_n q]
      rw [e3, Rc_bump hk]
      unfold Qw
      constructor
      · rintro (q | ⟨-, q1, q2⟩)
        · exact ⟨0, by omega, by omega, by simpa using (hb s hs).mp q⟩
        · exact ⟨1, by omega, by omega, by simpa using (hb _ (by omega)).mp q2⟩
      · rintro ⟨c, c1, c2, c3⟩
        rcases (show c = 0 ∨ c = 1 by omega) with rfl | rfl
        · exact Or.inl ((hb s hs).mpr (by simpa using c3))
        · exact Or.inr ⟨by omega, by omega, (hb _ (by omega)).mpr (by simpa using c3)⟩
  · have e1 : ownV fit kn ks k (V k) = 0 := by
      unfold ownV
      by_cases q : fit = 0
      · rw [if_pos q]
      · rw [if_neg q, if_neg hg]
    have e3 : Rc n V (spN kn ks (T2f kn R T k) 0) s ↔ Rc n V (spN kn ks T 0) s := by
      refine Rc_congr (fun i hi => ?_)
      unfold T2f
      by_cases c : kn k = 0 ∧ T k < R k
      · rw [if_pos c]
        unfold spN
        by_cases q : i = k
        · subst q; rw [if_neg hg, if_neg hg]
        · rw [st_n q]
      · rw [if_neg c]
    rw [e1, e3, ← hb s hs]
    unfold Qw
    constructor
    · rintro (q | ⟨q, -⟩)
      · exact q
      · omega
    · exact Or.inl
theorem MTp_congr {Q Q2 : Nat → Prop} {c nv : Nat} {P : Nat → Nat} (h : ∀ s, s < 1024 → (Q s ↔ Q2 s)) : MTp Q c nv P ↔ MTp Q2 c nv P := by
  unfold MTp
  constructor
  · rintro ⟨a, b, d⟩
    exact ⟨a, (h _ (by omega)).mp b, fun p hp h1 h2 => (h _ (by omega)).mp (d p hp h1 h2)⟩
  · rintro ⟨a, b, d⟩
    exact ⟨a, (h _ (by omega)).mpr b, fun p hp h1 h2 => (h _ (by omega)).mpr (d p hp h1 h2)⟩
/-- whether something of kind k is taken, with so much credit and the note of value nv held -/
def Tk (n : Nat) (V R T P : Nat → Nat) (kn ks : Nat → Int32) (k c nv : Nat) : Prop := (kn k = 0 ∨ nv = 0) ∧ MTp (Rc n V (spN kn ks (T2f kn R T k) 0)) (c + V k) (if kn k = 0 then nv else V k) P
theorem jn0 {A : Prop → Prop} {B : Prop} (P : Prop) (hB : P → B) (hA : ∀ Z : Prop, (P → Z) → A Z) : jn A B := hA B hB
theorem jn1 {α : Type} {A : (α → Prop) → Prop} {B : α → Prop} (P : α → Prop) (hB : ∀ v, P v → B v) (hA : ∀ Z : α → Prop, (∀ v, P v → Z v) → A Z) : jn A B := hA B hB
theorem sp_canTake {n k c : Nat} {V R T P : Nat → Nat} {ho : Option Nat} {pr kv kn kr kt kb ks kg : Nat → Int32} {wd : Nat → Nat → Int64} {hd : Int32} {K : Int32 → (Nat → Nat → Int64) → Prop} (hK : KI n V R T (nI n) kv kn kr kt kb ks kg) (hp : PRI P pr) (hc : c ≤ 999) (hh : HDI n V c ho hd kn) (hk : k < n)
    (h1 : Tk n V R T P kn ks k c (hval V ho) → ∀ wd2, K 1 wd2) (h0 : ¬ Tk n V R T P kn ks k c (hval V ho) → ∀ wd2, K 0 wd2) : wp_X5_canTake k (nI n) pr kv kn kr kt ks wd (nI c) hd K := by
  obtain ⟨-, hn, hv, hvd, hbb, hrt, hz⟩ := id hK
  have hKN : KN n V T (nI n) kv kt := ⟨rfl, hn, hv, fun i hi => ⟨(hrt i (by omega)).2.2.1, by have := hrt i (by omega); omega⟩⟩
  obtain ⟨r1, r2, t1, t2⟩ := hrt k (by omega)
  obtain ⟨v1, v2, v3⟩ := hv k hk
  unfold wp_X5_canTake
  refine jn0 (kn k = 0 ∨ hval V ho = 0) (fun hq => ?_) (fun Z hZ => ⟨fun q => hZ (Or.inl q), fun q => ⟨fun q2 => hZ (Or.inr ?_), fun q2 => ?_⟩⟩)
  · refine sp_collect (r := 0) hKN (by omega) (fun wd2 _ hw => ?_)
    refine jn1 (fun x => x = nI (if kn k = 0 then hval V ho else V k)) (fun x hx => ?_) (fun Z hZ => ⟨fun q => sp_heldC hn hv hh (hZ _ (by rw [if_pos q])), fun q => hZ _ (by rw [if_neg q]; exact v1)⟩)
    subst hx
    have hnv : (if kn k = 0 then hval V ho else V k) ≤ c + V k := by
      by_cases q : kn k = 0
      · rw [if_pos q]; have := hval_le hh; omega
      · rw [if_neg q]; omega
    unfold wp_X0_free
    rw [r1, t1, pk_sub t2]
    refine jn1 (fun fit => fit = 0 ∧ ¬ T k < R k ∨ fit = 1 ∧ T k < R k) (fun fit hfit => ?_) (fun Z hZ => ⟨fun q => hZ _ (Or.inl ⟨rfl, by rw [nI_le0 (by omega)] at q; omega⟩), fun q => hZ _ (Or.inr ⟨rfl, by rw [nI_le0 (by omega)] at q; omega⟩)⟩)
    rw [v1, nI_add]
    have e : MTp (Qw (wd2 0) (ownV fit kn ks k (V k))) (c + V k) (if kn k = 0 then hval V ho else V k) P ↔ MTp (Rc n V (spN kn ks (T2f kn R T k) 0)) (c + V k) (if kn k = 0 then hval V ho else V k) P := MTp_congr (fun s hs => Qw_iff hw hk v2 hfit hs)
    exact sp_mayTake (by omega) hnv hp v1 v3 (fun hm => h1 ⟨hq, e.mp hm⟩ wd2) (fun hm => h0 (fun ht => hm (e.mpr ht.2)) wd2)
  · cases ho with
    | none => rfl
    | some k2 =>
      exact absurd (show (-1 : Int32) < 0 by decide) (by rw [← q2, hh.1]; exact nI_pos (by have := hh.2.1; omega))
  · refine h0 (fun ht => ?_) wd
    rcases ht.1 with t | t
    · exact q t
    · cases ho with
      | none => exact q2 hh
      | some k2 =>
        have := (hv k2 hh.2.1).2.1
        have t' : V k2 = 0 := t
        omega
theorem sp_wt135 {c : Nat} {x5 : Int32} {P : Nat → Nat} {Q : Nat → Prop} {mtu mpr mca mfr : Nat → Int32} {K : Int32 → (Nat → Int32) → (Nat → Int32) → (Nat → Int32) → Prop} {X : Prop} (hc : c ≤ 999) (hp : PRI P mpr) (hq : CA mca Q)
    (hX : (∀ p, p < 6 → 0 < P p → P p ≤ c → Q (c - P p)) → X) (h0 : (¬ ∀ p, p < 6 → 0 < P p → P p ≤ c → Q (c - P p)) → K 0 mtu mca mfr) :
    ∀ (m k : Nat), k + m = 6 → (∀ p, p < k → 0 < P p → P p ≤ c → Q (c - P p)) → wp_X6_wouldTake_135 (nI c) x5 mtu mpr mca mfr K X (m + 1) (nI k) := by
  intro m
  induction m with
  | zero =>
    intro k hk h
    unfold wp_X6_wouldTake_135
    exact ⟨fun _ => hX (fun p hp => h p (by omega)), fun q => absurd (nI_le (a := 6) (by omega) (by omega)) q⟩
  | succ m ih =>
    intro k hk h
    unfold wp_X6_wouldTake_135
    have hin : vp_in (nI k) 6 := vp_in_nI (by omega) (by omega)
    obtain ⟨e, hP⟩ := hp k (by omega)
    rw [nI_clamp (by omega), nI_1, e]
    have go : (0 < P k → P k ≤ c → Q (c - P k)) → wp_X6_wouldTake_135 (nI c) x5 mtu mpr mca mfr K X (m + 1) (nI (k + 1)) := fun hq2 => ih (k + 1) (by omega) (fun p hp h1 h2 => by
      by_cases e : p = k
      · subst e; exact hq2 h1 h2
      · exact h p (by omega) h1 h2)
    refine ⟨fun q => absurd q (nI_ge (b := 6) (by omega) (by omega)), fun _ => ⟨hin, fun q => go (fun h1 _ => absurd q (nI_nle h1 (by omega))), fun q => ⟨hin, fun q2 => go (fun _ h2 => absurd q2 (nI_nlt h2 (by omega))), fun q2 => ⟨hin, ?_⟩⟩⟩⟩
    have hle : P k ≤ c := by
      rcases Nat.lt_or_ge c (P k) with t | t
      · exact absurd (nI_lt t (by omega)) q2
      · exact t
    have hpos : 0 < P k := by
      rcases Nat.eq_zero_or_pos (P k) with t | t
      · rw [t] at q; exact absurd (by decide) q
      · exact t
    rw [pk_sub hle, nI_clamp (by omega)]
    refine ⟨vp_in_nI (by omega) (by omega), fun q3 => go (fun _ _ => (hq.ne0 (by omega)).mp q3), fun q3 => h0 (fun hall => (hq.eq0 (by omega)).mp q3 (hall k (by omega) hpos hle))⟩
theorem upd_back {f : Nat → Int32} {k : Nat} {x : Int32} : upd (upd f k (f k + x)) k (upd f k (f k + x) k - x) = f := by
  funext i
  by_cases e : i = k
  · subst e; rw [pk_us, pk_us, Int32.add_sub_cancel]
  · rw [pk_un e, pk_un e]
theorem sp_wouldTake {n k c nv : Nat} {V R T P : Nat → Nat} {mva mno mro mtu mst mpr mca mfr : Nat → Int32} {K : Int32 → (Nat → Int32) → (Nat → Int32) → (Nat → Int32) → Prop} (hKN : KN n V T (nI n) mva mtu) (hk : k < n) (hr1 : mro k = nI (R k)) (hr2 : R k ≤ 20) (ht2 : T k ≤ R k) (hp : PRI P mpr) (hc : c ≤ 999) (hnv : nv ≤ c)
    (h1 : Tk n V R T P mno mst k c nv → ∀ m2 f2, K 1 mtu m2 f2) (h0 : ¬ Tk n V R T P mno mst k c nv → ∀ m2 f2, K 0 mtu m2 f2) : wp_X6_wouldTake (nI k) (nI c) (nI nv) (nI n) mva mno mro mtu mst mpr mca mfr K := by
  obtain ⟨-, hn, hv, ht⟩ := id hKN
  obtain ⟨v1, v2, v3⟩ := hv k hk
  obtain ⟨t1, t3⟩ := ht k hk
  have hin : vp_in (nI k) 6 := vp_in_nI (by omega) (by omega)
  have hcl : (nI k).toNatClampNeg = k := nI_clamp (by omega)
  unfold wp_X6_wouldTake
  rw [hcl]
  refine ⟨hin, hin, ?_⟩
  refine jn1 (fun x => x = nI (if mno k = 0 then 0 else V k)) (fun x hx => ?_) (fun Z hZ => ⟨fun q => hZ _ (by rw [if_pos q]; rfl), fun q => ⟨hin, hZ _ (by rw [if_neg q]; exact v1)⟩⟩)
  subst hx
  rw [v1, nI_add]
  refine ⟨fun q => h0 (fun ht => ?_) mca mfr, fun q => ⟨hin, ?_⟩⟩
  · exact absurd q (nI_nlt (a := 999) ht.2.1 (by omega))
  have hc9 : c + V k ≤ 999 := by
    rcases Nat.lt_or_ge 999 (c + V k) with t | t
    · exact absurd (nI_lt (a := 999) t (by omega)) q
    · exact t
  refine jn0 (mno k = 0 ∨ nv = 0) (fun hq => ⟨hin, ?_⟩) (fun Z hZ => ⟨fun q => hZ (Or.inl q), fun q => ⟨fun q2 => hZ (Or.inr ((nI_le0 (by omega)).mp q2)), fun q2 => h0 (fun ht => ?_) mca mfr⟩⟩)
  rotate_left
  · rcases ht.1 with t | t
    · exact q t
    · exact q2 (by rw [t]; decide)
  refine jn1 (fun fit => fit = 0 ∧ ¬ (mno k = 0 ∧ T k < R k) ∨ fit = 1 ∧ (mno k = 0 ∧ T k < R k)) (fun fit hfit => ?_) (fun Z hZ => jn0 (¬ (mno k = 0 ∧ T k < R k)) (fun hno => hZ 0 (Or.inl ⟨rfl, hno⟩)) (fun Z2 hZ2 => ⟨fun q => hZ2 (fun t => q t.1), fun q => ⟨hin, hin, fun q2 => hZ2 (fun t => ?_), fun q2 => hZ 1 (Or.inr ⟨rfl, q, ?_⟩)⟩⟩))
  rotate_left
  · rw [hr1, t1] at q2; exact absurd q2 (nI_ge t.2 (by omega))
  · rw [hr1, t1] at q2; exact (nI_ltI (by omega) (by omega)).mp (nle_lt q2)
  have eback : nI (c + V k) - nI nv - nI (if mno k = 0 then 0 else V k) = nI (c + V k - (if mno k = 0 then nv else V k)) := by
    rcases hq with hq | hq
    · simp only [if_pos hq]
      rw [pk_sub (by omega), pk_sub (by omega)]; rfl
    · subst hq
      rw [pk_sub (by omega)]
      by_cases q : mno k = 0
      · simp only [if_pos q]
        rw [pk_sub (by omega)]; rfl
      · simp only [if_neg q]
        rw [pk_sub (by omega)]; rfl
  rw [eback, nI_clamp (by omega)]
  refine jn1 (fun g => g = if fit = 0 then mtu else upd mtu k (mtu k + 1)) (fun g hg => ?_) (fun Z hZ => ⟨fun q => hZ _ (by rw [if_pos q]), fun q => ⟨hin, hin, hZ _ (by rw [if_neg q])⟩⟩)
  have hKN2 : KN n V (T2f mno R T k) (nI n) mva g := by
    refine ⟨rfl, hn, hv, fun i hi => ?_⟩
    subst hg
    unfold T2f
    rcases hfit with ⟨e, hf⟩ | ⟨e, hf⟩
    · rw [if_pos e, if_neg hf]; exact ht i hi
    · rw [if_neg (by rw [e]; decide), if_pos hf]
      by_cases e2 : i = k
      · subst e2; rw [pk_us, st_s, t1, nI_1]; exact ⟨rfl, by omega⟩
      · rw [pk_un e2, st_n e2]; exact ht i hi
  refine sp_findSums hKN2 (fun m2 f2 hca => ?_)
  refine jn1 (fun g2 => g2 = mtu) (fun g2 hg2 => ⟨7, ?_⟩) (fun Z hZ => ⟨fun q => hZ _ (by rw [hg, if_pos q]), fun q => ⟨hin, hin, hZ _ ?_⟩⟩)
  rotate_left
  · rw [hg, if_neg q]; exact upd_back
  subst hg2
  refine sp_wt135 hc9 hp hca (fun hall => ?_) (fun hno => h0 (fun ht => hno ht.2.2.2) m2 f2) 6 0 (by omega) (fun p hp => by omega)
  refine ⟨vp_in_nI (by omega) (by omega), (hca _ (by omega)).1, ?_⟩
  by_cases hb : Rc n V (spN mno mst (T2f mno R T k) 0) (c + V k - (if mno k = 0 then nv else V k))
  · rw [(hca _ (by omega)).2.mpr hb]
    exact h1 ⟨hq, hc9, hb, hall⟩ m2 f2
  · rw [(hca.eq0 (by omega)).mpr hb]
    exact h0 (fun ht => hb ht.2.2.1) m2 f2

