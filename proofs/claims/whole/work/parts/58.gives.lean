/-! the reference's giving; buy, refund, pay -/
theorem sp_nextUsed {n rs k : Nat} {V rk w : Nat → Nat} {mno mrk mus : Nat → Int32} {K : Int32 → Prop} (hn : n ≤ 6) (hR : RKI n V mno rs rk) (hrk : ∀ i, i < rs → mrk i = nI (rk i)) (hus : ∀ i, i < n → mus i = nI (w i)) (hwb : ∀ i, i < n → w i ≤ 20) (hk : k < n) (hc : mno k = 0) (hw : 0 < w k) (htop : ∀ i, i < n → 0 < w i → V i ≤ V k) (h : K (nI k)) : wp_X6_nextUsed (nI rs) mrk mus K := by
  unfold wp_X6_nextUsed
  obtain ⟨p, hp, ep⟩ := hR.2.2.2 k hk hc
  have hrn := hR.1
  have lp : ∀ (m i : Nat), i + m = p → wp_X6_nextUsed_2 (nI rs) mrk mus K (K (-1 : Int32)) (m + 1) (nI i) := by
    intro m
    induction m with
    | zero =>
      intro i hi
      have e : i = p := by omega
      subst e
      unfold wp_X6_nextUsed_2
      rw [nI_clamp (show i < 2 ^ 31 by omega), hrk i hp, ep, nI_clamp (show k < 2 ^ 31 by omega), hus k hk]
      have := hwb k hk
      exact ⟨fun q => absurd q (nI_ge (by omega) (by omega)), fun _ => ⟨vp_in_nI (by omega) (by omega), vp_in_nI (by omega) (by omega), fun q => absurd ((nI_le0 (by omega)).mp q) (by omega), fun _ => ⟨vp_in_nI (by omega) (by omega), h⟩⟩⟩
    | succ m ih =>
      intro i hi
      unfold wp_X6_nextUsed_2
      obtain ⟨a1, a2⟩ := hR.2.1 i (by omega)
      have hz : w (rk i) = 0 := by
        rcases Nat.eq_zero_or_pos (w (rk i)) with e | e
        · exact e
        · have x := htop _ a1 e
          have y := hR.2.2.1 i p (by omega) hp
          rw [ep] at y
          omega
      rw [nI_clamp (show i < 2 ^ 31 by omega), hrk i (by omega), nI_clamp (show rk i < 2 ^ 31 by omega), hus _ a1, hz, nI_1]
      exact ⟨fun q => absurd q (nI_ge (by omega) (by omega)), fun _ => ⟨vp_in_nI (by omega) (by omega), vp_in_nI (by omega) (by omega), fun _ => ih (i + 1) (by omega), fun q => absurd ((nI_le0 (by omega)).mpr rfl) q⟩⟩
  exact ⟨p + 1, lp p 0 (by omega)⟩
theorem isum_up {kg : Nat → Int32} {k : Nat} : ∀ {n : Nat}, k < n → isum (fun i => upd kg k (kg k + 1) i) n = isum (fun i => kg i) n + 1
  | 0, h => by omega
  | n + 1, h => by
    show isum (fun i => upd kg k (kg k + 1) i) n + upd kg k (kg k + 1) n = isum (fun i => kg i) n + kg n + 1
    by_cases e : k = n
    · subst e
      rw [pk_us, isum_congr (f := fun i => upd kg k (kg k + 1) i) (g := fun i => kg i) (fun i hi => pk_un (by omega)), Int32.add_assoc]
    · rw [isum_up (show k < n by omega), pk_un (fun q => e q.symm), Int32.add_assoc, Int32.add_comm 1 (kg n), ← Int32.add_assoc]
theorem isum_zero {kg : Nat → Int32} : ∀ {n : Nat}, (∀ i, i < n → kg i = 0) → isum (fun i => kg i) n = 0
  | 0, _ => rfl
  | n + 1, h => by
    show isum (fun i => kg i) n + kg n = 0
    rw [isum_zero (fun i hi => h i (by omega)), h n (by omega)]; rfl
theorem bk_step {b l v x y : Int32} (h : v + l = y) : b + (x - y) + v = b + (x - l) := by
  subst h
  rw [Int32.add_assoc]
  congr 1
  rw [Int32.sub_eq_add_neg, Int32.sub_eq_add_neg, Int32.neg_add, Int32.add_assoc, Int32.sub_eq_add_neg, Int32.add_comm (-v) (-l), Int32.add_assoc, Int32.add_left_neg, Int32.add_zero]
theorem sp_g32 {n m L0 L' : Nat} {V T' : Nat → Nat} {kn mva mno ks' kj' kg' mbk0 : Nat → Int32} {K : Int32 → (Nat → Int32) → (Nat → Int32) → (Nat → Int32) → Int32 → (Nat → Int32) → Int32 → (Nat → Int32) → (Nat → Int32) → (Nat → Int32) → (Nat → Int32) → Prop} {X : Int32 → Int32 → (Nat → Int32) → (Nat → Int32) → (Nat → Int32) → (Nat → Int32) → Int32 → (Nat → Int32) → (Nat → Int32) → (Nat → Int32) → (Nat → Int32) → Prop} (hn : n ≤ 6) (hm : m ≤ 1) (hv : ∀ i, i < n → mva i = nI (V i) ∧ 1 ≤ V i ∧ V i ≤ 200) (hvd : ∀ i j, i < n → j < n → V i = V j → i = j) (an : Eq6 mno kn)
    (hX : ∀ mtu mst mja mbk mrs mrk mfe mus mgi, (∀ i, i < 6 → mtu i = nI (T' i)) → Eq6 mst ks' → Eq6 mja kj' → Eq6 mgi kg' → (∀ i, i ≠ 2 → mbk i = mbk0 i) → mbk 2 = mbk0 2 + (nI L0 - nI L') → X (nI L') (isum (fun i => kg' i) n) mtu mst mja mbk mrs mrk mfe mus mgi) :
    ∀ (d : Nat) (w : Nat → Nat) (L : Nat) (T : Nat → Nat) (ks kj kg : Nat → Int32) (mtu mst mja mbk : Nat → Int32) (rs : Nat) (rk : Nat → Nat) (mrk mfe mus mgi : Nat → Int32), Gv n m V kn L' T' ks' kj' kg' d w L T ks kj kg → L ≤ 999 → (∀ i, i < 6 → mtu i = nI (T i)) → (∀ i, i < n → T i ≤ 20) → Eq6 mst ks → Eq6 mja kj → Eq6 mgi kg → RKI n V mno rs rk → (∀ i, i < rs → mrk i = nI (rk i)) → (∀ i, i < n → mus i = nI (w i)) → (∀ i, i ≠ 2 → mbk i = mbk0 i) → mbk 2 = mbk0 2 + (nI L0 - nI L) → wp_X6_gives_32 (nI n) mva mno (nI m) K X (d + 2) (nI L) (isum (fun i => kg i) n) 1 mtu mst mja mbk (nI rs) mrk mfe mus mgi := by
  intro d
  induction d with
  | zero =>
    intro w L T ks kj kg mtu mst mja mbk rs rk mrk mfe mus mgi hG h1 h2 h3 h4 h5 h6 h7 h8 h9 h10 h11
    obtain ⟨e, e1, e2, e3, e4, e5⟩ := hG
    subst e; subst e1; subst e2; subst e3; subst e4; subst e5
    unfold wp_X6_gives_32
    exact ⟨fun q => absurd q (by decide), fun _ => ⟨fun _ => hX mtu mst mja mbk _ mrk mfe mus mgi h2 h4 h5 h6 h10 h11, fun q => absurd ((nI_le0 (by omega)).mpr rfl) q⟩⟩
  | succ d ih =>
    intro w L T ks kj kg mtu mst mja mbk rs rk mrk mfe mus mgi hG h1 h2 h3 h4 h5 h6 h7 h8 h9 h10 h11
    obtain ⟨k, a1, a2, a3, a4, a5, a6, hG⟩ := hG
    unfold wp_X6_gives_32
    refine ⟨fun q => absurd q (by decide), fun _ => ⟨fun q => absurd ((nI_le0 (by omega)).mp q) (by omega), fun _ => ?_⟩⟩
    refine sp_nextUsed hn h7 h8 h9 a4 a1 (by rw [an k (by omega)]; exact a2) a3 a5 ?_
    have hin : vp_in (nI k) 6 := vp_in_nI (by omega) (by omega)
    have hin2 : vp_in 2 6 := vp_in_l (by decide)
    obtain ⟨v1, v2, v3⟩ := hv k a1
    have ejk : mja k = kj k := h5 k (by omega)
    rw [nI_clamp (show k < 2 ^ 31 by omega)]
    refine ⟨hin, fun q => ⟨hin, ?_⟩, fun q => ⟨hin, hin, ?_⟩⟩
    · rcases hG with ⟨b1, b2, b3, b4⟩ | ⟨b1, -⟩
      · have key : ∀ mja2, Eq6 mja2 (jd kj k) → wp_X6_gives_32 (nI n) mva mno (nI m) K X (d + 2) (nI L - mva k) (isum (fun i => kg i) n + 1) 1 (upd mtu k (mtu k - 1)) mst mja2 (upd mbk (2 : Int32).toNatClampNeg (mbk (2 : Int32).toNatClampNeg + mva k)) (nI rs) mrk mfe (upd mus k (mus k - 1)) (upd mgi k (mgi k + 1)) := by
          intro mja2 hj2
          rw [v1, pk_sub b3, ← isum_up (kg := kg) a1]
          refine ih (st w k (w k - 1)) (L - V k) (st T k (T k - 1)) ks (jd kj k) (upd kg k (kg k + 1)) _ _ _ _ rs rk _ _ _ _ b4 (by omega) (fun i hi => ?_) (fun i hi => ?_) h4 hj2 (h6.up2 (by rw [h6 k (by omega)])) h7 h8 (fun i hi => ?_) (fun i hi => ?_) ?_
          · by_cases e : i = k
            · subst e; rw [pk_us, st_s, h2 i hi]
              rw [show T i = T i - 1 + 1 by omega, nI_p1]; rfl
            · rw [pk_un e, st_n e]; exact h2 i hi
          · by_cases e : i = k
            · subst e; rw [st_s]; have := h3 i hi; omega
            · rw [st_n e]; exact h3 i hi
          · by_cases e : i = k
            · subst e; rw [pk_us, st_s, h9 i hi]
              rw [show w i = w i - 1 + 1 by omega, nI_p1]; rfl
            · rw [pk_un e, st_n e]; exact h9 i hi
          · rw [show (2 : Int32).toNatClampNeg = 2 from rfl, pk_un hi]; exact h10 i hi
          · rw [show (2 : Int32).toNatClampNeg = 2 from rfl, pk_us, h11]
            exact bk_step (by rw [nI_add]; congr 1; omega)
        unfold jn
        refine ⟨fun c => ?_, fun c => ⟨hin, hin, ?_⟩⟩
        · exact ⟨hin, hin, hin, hin, hin, hin, hin, hin2, hin, hin2, key mja (by
            have e : jd kj k = kj := if_pos (by rw [← ejk]; exact c)
            rw [e]; exact h5)⟩
        · exact ⟨hin, hin, hin, hin, hin, hin, hin, hin2, hin, hin2, key _ (by
            have e : jd kj k = upd kj k (kj k - 1) := if_neg (by rw [← ejk]; exact c)
            rw [e]; exact h5.up2 (by rw [ejk]))⟩
      · exact absurd (ejk.trans b1) q
    · rcases hG with ⟨b1, -⟩ | ⟨b1, hG⟩
      · exact absurd (ejk ▸ q) b1
      · have hs2 : Eq6 (upd mst k 1) (upd ks k 1) := h4.up
        have hj2 : Eq6 (upd mja k (-1)) (upd kj k (-1)) := h5.up
        have hKM : KN n V T (nI n) mva mtu := ⟨rfl, hn, hv, fun i hi => ⟨h2 i (by omega), h3 i hi⟩⟩
        rcases hG with ⟨hno, e1, e2, e3, e4, e5⟩ | ⟨f, u, c1, c2, c3, c4, hG⟩
        · subst e1; subst e2; subst e3; subst e4; subst e5
          refine sp_findWay hKM hvd hm h1 (fun _ mrs2 mrk2 mfe2 mus2 => ?_) (fun hre => absurd ((Rc_eq hn an hs2).mp hre) hno)
          unfold wp_X6_gives_32
          exact ⟨fun _ => hX _ _ _ _ _ _ _ _ _ h2 hs2 hj2 h6 h10 h11, fun q => absurd rfl q⟩
        · refine sp_findWay hKM hvd hm h1 (fun hno => absurd ((Rc_eq hn an hs2).mpr c4) hno) (fun _ rs2 rk2 mrk2 mfe2 mus2 g u2 d1 d2 d3 d4 d5 d6 d7 => ?_)
          have ew := ways_one hn hm (fun i hi => (hv i hi).2.2) an hs2 c1 c2 c3 d3 d4 d5
          exact ih u L T _ _ kg mtu _ _ mbk rs2 rk2 mrk2 mfe2 mus2 mgi hG h1 h2 h3 hs2 hj2 h6 d1 d2 (fun i hi => by rw [d6 i (by omega), ew i hi]) h10 h11
theorem sp_gives2 {x1 : Int32} {mgi : Nat → Int32} {K : Int32 → (Nat → Int32) → (Nat → Int32) → (Nat → Int32) → Int32 → (Nat → Int32) → Int32 → (Nat → Int32) → (Nat → Int32) → (Nat → Int32) → (Nat → Int32) → Prop} {X : (Nat → Int32) → Prop} (hX : ∀ f : Nat → Int32, (∀ i, i < 6 → f i = 0) → X f) : ∃ f, wp_X6_gives_2 x1 K X f 0 mgi := by
  have lp : ∀ (m k : Nat) (f : Nat → Int32), k + m = 6 → (∀ i, i < k → f i = 0) → wp_X6_gives_2 x1 K X (m + 1) (nI k) f := by
    intro m
    induction m with
    | zero =>
      intro k f hk h1
      unfold wp_X6_gives_2
      exact ⟨fun _ => hX f (fun i hi => h1 i (by omega)), fun q => absurd (nI_le (a := 6) (by omega) (by omega)) q⟩
    | succ m ih =>
      intro k f hk h1
      unfold wp_X6_gives_2
      refine ⟨fun q => absurd q (nI_ge (b := 6) (by omega) (by omega)), fun _ => ⟨vp_in_nI (by omega) (by omega), ?_⟩⟩
      rw [nI_clamp (by omega), nI_1]
      refine ih (k + 1) _ (by omega) (fun i hi => ?_)
      by_cases e : i = k
      · subst e; rw [pk_us]
      · rw [pk_un e]; exact h1 i (by omega)
  exact ⟨7, lp 6 0 mgi (by omega) (fun i hi => by omega)⟩
theorem sp_givesM {n m L L' : Nat} {V T T' : Nat → Nat} {kn ks kj kg1 mva mno mtu mst mja mbk mrk mfe mus mgi ks' kj' kg' : Nat → Int32} {mow mrs : Int32} {K : Int32 → (Nat → Int32) → (Nat → Int32) → (Nat → Int32) → Int32 → (Nat → Int32) → Int32 → (Nat → Int32) → (Nat → Int32) → (Nat → Int32) → (Nat → Int32) → Prop} (hKM : KN n V T (nI n) mva mtu) (hm : m ≤ 1) (hvd : ∀ i j, i < n → j < n → V i = V j → i = j) (an : Eq6 mno kn) (as : Eq6 mst ks) (aj : Eq6 mja kj) (hg1 : ∀ i, i < 6 → kg1 i = 0) (ht6 : ∀ i, i < 6 → mtu i = nI (T i)) (hL : L ≤ 999) (hG : Gr n m V kn L T ks kj kg1 L' T' ks' kj' kg')
    (hK : ∀ mtu2 mst2 mja2 mbk2 mrs2 mrk2 mfe2 mus2 mgi2, (∀ i, i < 6 → mtu2 i = nI (T' i)) → Eq6 mst2 ks' → Eq6 mja2 kj' → Eq6 mgi2 kg' → (∀ i, i ≠ 2 → mbk2 i = mbk i) → mbk2 2 = mbk 2 + (nI L - nI L') → K (isum (fun i => kg' i) n) mtu2 mst2 mja2 (mow + nI L') mbk2 mrs2 mrk2 mfe2 mus2 mgi2) : wp_X6_gives (nI L) (nI n) mva mno mtu mst mja mow (nI m) mbk mrs mrk mfe mus mgi K := by
  obtain ⟨-, hn, hv, ht⟩ := id hKM
  unfold wp_X6_gives
  refine sp_gives2 (fun mg1 hmg => ?_)
  have hgg : Eq6 mg1 kg1 := fun i hi => (hmg i hi).trans (hg1 i hi).symm
  have hi0 : isum (fun i => kg1 i) n = 0 := isum_zero (fun i hi => hg1 i (by omega))
  have hb0 : mbk 2 = mbk 2 + (nI L - nI L) := by rw [Int32.sub_self, Int32.add_zero]
  rcases hG with ⟨⟨e1, e2, e3, e4, e5⟩, hor⟩ | ⟨hL0, f, w, c1, c2, c3, c4, d, hG⟩
  · subst e1; subst e2; subst e3; subst e4; subst e5
    have fin : ∀ (r : Int32) (mrs2 : Int32) (mrk2 mfe2 mus2 : Nat → Int32), (r = 0 ∨ L' = 0) → ∃ n3, wp_X6_gives_32 (nI n) mva mno (nI m) K (fun x2_3 x3_3 mtu_3 mst_3 mja_3 mbk_3 mrs_3 mrk_3 mfe_3 mus_3 mgi_3 => K x3_3 mtu_3 mst_3 mja_3 (mow + x2_3) mbk_3 mrs_3 mrk_3 mfe_3 mus_3 mgi_3) n3 (nI L') 0 r mtu mst mja mbk mrs2 mrk2 mfe2 mus2 mg1 := by
      intro r mrs2 mrk2 mfe2 mus2 hr
      refine ⟨1, ?_⟩
      have hh := hK mtu mst mja mbk mrs2 mrk2 mfe2 mus2 mg1 ht6 as aj hgg (fun _ _ => rfl) hb0
      rw [hi0] at hh
      unfold wp_X6_gives_32
      refine ⟨fun _ => hh, fun q => ⟨fun _ => hh, fun q2 => ?_⟩⟩
      rcases hr with e | e
      · exact absurd e q
      · exact absurd ((nI_le0 (by omega)).mpr e) q2
    refine sp_findWay hKM hvd hm hL (fun hno mrs2 mrk2 mfe2 mus2 => fin 0 _ _ _ _ (Or.inl rfl)) (fun hre rs rk mrk2 mfe2 mus2 g u _ _ _ _ _ _ _ => fin 1 _ _ _ _ (Or.inr ?_))
    rcases hor with e | e
    · exact e
    · exact absurd ((Rc_eq hn an as).mp hre) e
  · refine sp_findWay hKM hvd hm hL (fun hno => absurd ((Rc_eq hn an as).mpr c4) hno) (fun _ rs rk mrk2 mfe2 mus2 g u d1 d2 d3 d4 d5 d6 d7 => ⟨d + 2, ?_⟩)
    have ew := ways_one hn hm (fun i hi => (hv i hi).2.2) an as c1 c2 c3 d3 d4 d5
    have := sp_g32 (K := K) (X := fun x2_3 x3_3 mtu_3 mst_3 mja_3 mbk_3 mrs_3 mrk_3 mfe_3 mus_3 mgi_3 => K x3_3 mtu_3 mst_3 mja_3 (mow + x2_3) mbk_3 mrs_3 mrk_3 mfe_3 mus_3 mgi_3) (mbk0 := mbk) (L0 := L) hn hm hv hvd an (fun mtu2 mst2 mja2 mbk2 mrs2 mrk2 mfe2 mus2 mgi2 k1 k2 k3 k4 k5 k6 => hK mtu2 mst2 mja2 mbk2 mrs2 mrk2 mfe2 mus2 mgi2 k1 k2 k3 k4 k5 k6) d w L T ks kj kg1 mtu mst mja mbk rs rk mrk2 mfe2 mus2 mg1 hG hL ht6 (fun i hi => (ht i hi).2) as aj hgg d1 d2 (fun i hi => by rw [d6 i (by omega), ew i hi]) (fun _ _ => rfl) hb0
    rw [hi0] at this
    exact this
