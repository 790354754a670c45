/-! the relation between the two states -/
def Eq6 (f g : Nat → Int32) : Prop := ∀ i, i < 6 → f i = g i
theorem Eq6.rf {f : Nat → Int32} : Eq6 f f := fun _ _ => rfl
theorem Eq6.up {f g : Nat → Int32} {k : Nat} {x : Int32} (h : Eq6 f g) : Eq6 (upd f k x) (upd g k x) := fun i hi => by
  by_cases e : i = k
  · subst e; rw [pk_us, pk_us]
  · rw [pk_un e, pk_un e]; exact h i hi
theorem Eq6.up2 {f g : Nat → Int32} {k : Nat} {x y : Int32} (h : Eq6 f g) (e : x = y) : Eq6 (upd f k x) (upd g k y) := e ▸ h.up
/-- the kinds: n of them, their values, rooms, what is in the tubes -/
def KI (n : Nat) (V R T : Nat → Nat) (sz : Int32) (kv kn kr kt kb ks kg : Nat → Int32) : Prop :=
  sz = nI n ∧ n ≤ 6 ∧ (∀ i, i < n → kv i = nI (V i) ∧ 1 ≤ V i ∧ V i ≤ 200) ∧ (∀ i j, i < n → j < n → V i = V j → i = j) ∧ (∀ i, i < 6 → (kn i = 0 ∨ kn i = 1) ∧ (ks i = 0 ∨ ks i = 1)) ∧ (∀ i, i < 6 → kr i = nI (R i) ∧ R i ≤ 20 ∧ kt i = nI (T i) ∧ T i ≤ R i) ∧ (∀ i, n ≤ i → i < 6 → kn i = 0 ∧ R i = 0 ∧ kb i = 0 ∧ kg i = 0)
def PMI (n : Nat) (V pm : Nat → Nat) : Prop := (∀ i, i < n → pm i < n) ∧ (∀ i j, i < j → j < n → V (pm i) < V (pm j)) ∧ (∀ k, k < n → ∃ i, i < n ∧ pm i = k)
def PRI (P : Nat → Nat) (pr : Nat → Int32) : Prop := ∀ p, p < 6 → pr p = nI (P p) ∧ P p ≤ 300
def CRI (j c o m : Nat) (cr ow md : Int32) : Prop := cr = nI c ∧ c ≤ 999 ∧ ow = nI o ∧ o ≤ 999 * j ∧ j ≤ 512 ∧ md = nI m ∧ m ≤ 1
def HDI (n : Nat) (V : Nat → Nat) (c : Nat) (ho : Option Nat) (hd : Int32) (kn : Nat → Int32) : Prop := match ho with
  | none => hd = -1
  | some k => hd = nI k ∧ k < n ∧ ¬ kn k = 0 ∧ V k ≤ c
def FWI (fw : Nat → Nat → Int32) : Prop := ∀ s, s < 1000 → fw 0 s = if s = 0 then 0 else 1000
def Inv (j n : Nat) (V R T P : Nat → Nat) (c o m : Nat) (ho : Option Nat) (sz : Int32) (pr : Nat → Int32) (pm : Nat → Nat) (kv : Nat → Int32) (kn : Nat → Int32) (kr : Nat → Int32) (kt : Nat → Int32) (kb : Nat → Int32) (ks : Nat → Int32) (kg : Nat → Int32) (fw : Nat → Nat → Int32) (md : Int32) (cr : Int32) (ow : Int32) (hd : Int32) : Prop := KI n V R T sz kv kn kr kt kb ks kg ∧ PMI n V pm ∧ PRI P pr ∧ CRI j c o m cr ow md ∧ HDI n V c ho hd kn ∧ FWI fw
def Agr (sz : Int32) (pr : Nat → Int32) (kv : Nat → Int32) (kn : Nat → Int32) (kr : Nat → Int32) (kt : Nat → Int32) (kb : Nat → Int32) (ks : Nat → Int32) (kj : Nat → Int32) (kg : Nat → Int32) (bk : Nat → Int32) (md : Int32) (cr : Int32) (ow : Int32) (hd : Int32) (mnk : Int32) (mva : Nat → Int32) (mno : Nat → Int32) (mro : Nat → Int32) (mtu : Nat → Int32) (mbx : Nat → Int32) (mst : Nat → Int32) (mja : Nat → Int32) (mpr : Nat → Int32) (mcr : Int32) (mow : Int32) (mhd : Int32) (mmo : Int32) (mbk : Nat → Int32) (mgi : Nat → Int32) : Prop := mnk = sz ∧ mcr = cr ∧ mow = ow ∧ mhd = hd ∧ mmo = md ∧ Eq6 mpr pr ∧ Eq6 mva kv ∧ Eq6 mno kn ∧ Eq6 mro kr ∧ Eq6 mtu kt ∧ Eq6 mbx kb ∧ Eq6 mst ks ∧ Eq6 mja kj ∧ Eq6 mgi kg ∧ Eq6 mbk bk
def Rel (j : Nat) : lwN := fun (sz : Int32) (pr : Nat → Int32) (pm : Nat → Nat) (kv : Nat → Int32) (kn : Nat → Int32) (kr : Nat → Int32) (kt : Nat → Int32) (kb : Nat → Int32) (ks : Nat → Int32) (kj : Nat → Int32) (kw : Nat → Int32) (kg : Nat → Int32) (wd : Nat → Nat → Int64) (fw : Nat → Nat → Int32) (ad : Nat → Int32) (bk : Nat → Int32) (md : Int32) (cr : Int32) (ow : Int32) (hd : Int32) (mtd : Int32) (mnk : Int32) (mva : Nat → Int32) (mno : Nat → Int32) (mro : Nat → Int32) (mtu : Nat → Int32) (mbx : Nat → Int32) (mst : Nat → Int32) (mja : Nat → Int32) (mpr : Nat → Int32) (mcr : Int32) (mow : Int32) (mhd : Int32) (mmo : Int32) (mbk : Nat → Int32) (mca : Nat → Int32) (mfr : Nat → Int32) (mrs : Int32) (mrk : Nat → Int32) (mfe : Nat → Int32) (mus : Nat → Int32) (mgi : Nat → Int32) (maj : Nat → Int32) => ∃ (n : Nat) (V R T P : Nat → Nat) (c o m : Nat) (ho : Option Nat), Inv j n V R T P c o m ho sz pr pm kv kn kr kt kb ks kg fw md cr ow hd ∧ Agr sz pr kv kn kr kt kb ks kj kg bk md cr ow hd mnk mva mno mro mtu mbx mst mja mpr mcr mow mhd mmo mbk mgi
theorem Rel_mono (j : Nat) (hj : j < 512) (sz : Int32) (pr : Nat → Int32) (pm : Nat → Nat) (kv : Nat → Int32) (kn : Nat → Int32) (kr : Nat → Int32) (kt : Nat → Int32) (kb : Nat → Int32) (ks : Nat → Int32) (kj : Nat → Int32) (kw : Nat → Int32) (kg : Nat → Int32) (wd : Nat → Nat → Int64) (fw : Nat → Nat → Int32) (ad : Nat → Int32) (bk : Nat → Int32) (md : Int32) (cr : Int32) (ow : Int32) (hd : Int32) (mtd : Int32) (mnk : Int32) (mva : Nat → Int32) (mno : Nat → Int32) (mro : Nat → Int32) (mtu : Nat → Int32) (mbx : Nat → Int32) (mst : Nat → Int32) (mja : Nat → Int32) (mpr : Nat → Int32) (mcr : Int32) (mow : Int32) (mhd : Int32) (mmo : Int32) (mbk : Nat → Int32) (mca : Nat → Int32) (mfr : Nat → Int32) (mrs : Int32) (mrk : Nat → Int32) (mfe : Nat → Int32) (mus : Nat → Int32) (mgi : Nat → Int32) (maj : Nat → Int32) (h : Rel j sz pr pm kv kn kr kt kb ks kj kw kg wd fw ad bk md cr ow hd mtd mnk mva mno mro mtu mbx mst mja mpr mcr mow mhd mmo mbk mca mfr mrs mrk mfe mus mgi maj) : Rel (j + 1) sz pr pm kv kn kr kt kb ks kj kw kg wd fw ad bk md cr ow hd mtd mnk mva mno mro mtu mbx mst mja mpr mcr mow mhd mmo mbk mca mfr mrs mrk mfe mus mgi maj := by
  obtain ⟨n, V, R, T, P, c, o, m, ho, ⟨h1, h2, h3, ⟨a1, a2, a3, a4, a5, a6, a7⟩, h5, h6⟩, hA⟩ := h
  exact ⟨n, V, R, T, P, c, o, m, ho, ⟨h1, h2, h3, ⟨a1, a2, a3, by omega, by omega, a6, a7⟩, h5, h6⟩, hA⟩
theorem Rel_init : lwInit (Rel 0) := by
  unfold lwInit Rel
  refine ⟨0, fun _ => 0, fun _ => 0, fun _ => 0, fun _ => 0, 0, 0, 0, none, ⟨⟨rfl, by omega, fun i hi => by omega, fun i j hi => by omega, fun i hi => ⟨Or.inl rfl, Or.inl rfl⟩, fun i hi => ⟨rfl, Nat.zero_le _, rfl, Nat.zero_le _⟩, fun i _ _ => ⟨rfl, rfl, rfl, rfl⟩⟩, ⟨fun i hi => by omega, fun i j _ hj => by omega, fun k hk => by omega⟩, fun p hp => ⟨rfl, Nat.zero_le _⟩, ⟨rfl, by omega, rfl, by omega, by omega, rfl, by omega⟩, rfl, fun s hs => ?_⟩, rfl, rfl, rfl, rfl, rfl, Eq6.rf, Eq6.rf, Eq6.rf, Eq6.rf, Eq6.rf, Eq6.rf, Eq6.rf, fun i hi => ?_, Eq6.rf, Eq6.rf⟩
  · unfold cgF0
    rw [va_up_self]
    by_cases e : s = 0
    · subst e; rw [pk_us]; rfl
    · rw [pk_un e, if_neg e]
      unfold fillI
      rw [if_pos hs]
  · match i, hi with
    | 0, _ => rfl
    | 1, _ => rfl
    | 2, _ => rfl
    | 3, _ => rfl
    | 4, _ => rfl
    | 5, _ => rfl
/-- a number is a kind's, or isn't -/
theorem isK (x : Int32) (n : Nat) (hn : n ≤ 6) : (∃ k, k < n ∧ x = nI k) ∨ (∀ k, k < n → ¬ x = nI k) := by
  rcases pk_ix x (n := n) (by omega) with h | h | ⟨k, h1, h2⟩
  · exact Or.inr (fun k hk e => by subst e; exact absurd h (nI_pos (by omega)))
  · exact Or.inr (fun k hk e => by subst e; exact absurd h (nI_ge hk (by omega)))
  · exact Or.inl ⟨k, h1, h2⟩
theorem sp_find_y {k n : Nat} {K : Option Nat → Prop} (hk : k < n) (hn : n ≤ 6) (h : K (some k)) : wp_X3_find (nI k) (nI n) K := by
  unfold wp_X3_find
  refine ⟨fun c => absurd c (nI_pos (by omega)), fun _ => ⟨fun _ => ⟨vp_in_nI (by omega) (by omega), by rw [nI_clamp (by omega)]; exact h⟩, fun c => absurd (nI_lt hk (by omega)) c⟩⟩
theorem sp_find_n {x : Int32} {n : Nat} {K : Option Nat → Prop} (hn : n ≤ 6) (hx : ∀ k, k < n → ¬ x = nI k) (h : K none) : wp_X3_find x (nI n) K := by
  unfold wp_X3_find
  refine ⟨fun _ => h, fun c => ⟨fun c2 => ?_, fun _ => h⟩⟩
  obtain ⟨k, hk, rfl⟩ := nI_of c
  exact absurd rfl (hx k ((nI_ltI (by omega) (by omega)).mp c2))
theorem sp_findCoin_y {k n : Nat} {kn : Nat → Int32} {K : Option Nat → Prop} (hk : k < n) (hn : n ≤ 6) (hc : kn k = 0) (h : K (some k)) : wp_X3_findCoin (nI k) (nI n) kn K := by
  unfold wp_X3_findCoin
  refine sp_find_y hk hn ⟨fun e => (by cases e), fun i e _ => ?_⟩
  cases e
  exact ⟨fun _ => h, fun c => absurd hc c⟩
theorem sp_findCoin_n {x : Int32} {n : Nat} {kn : Nat → Int32} {K : Option Nat → Prop} (hn : n ≤ 6) (hx : ∀ k, k < n → x = nI k → ¬ kn k = 0) (h : K none) : wp_X3_findCoin x (nI n) kn K := by
  unfold wp_X3_findCoin
  rcases isK x n hn with ⟨k, hk, e⟩ | hx2
  · have hh := hx k hk e
    subst e
    refine sp_find_y hk hn ⟨fun e => (by cases e), fun i e _ => ?_⟩
    cases e
    exact ⟨fun c => absurd c hh, fun _ => h⟩
  · exact sp_find_n hn hx2 ⟨fun _ => h, fun i e => by cases e⟩
theorem sp_isKind_y {k n : Nat} {K : Int32 → Prop} (hk : k < n) (hn : n ≤ 6) (h : K 1) : wp_X6_isKind (nI k) (nI n) K := by
  unfold wp_X6_isKind
  exact ⟨fun c => absurd c (nI_pos (by omega)), fun _ => ⟨fun c => absurd c (nI_ge hk (by omega)), fun _ => h⟩⟩
theorem sp_isKind_n {x : Int32} {n : Nat} {K : Int32 → Prop} (hn : n ≤ 6) (hx : ∀ k, k < n → ¬ x = nI k) (h : K 0) : wp_X6_isKind x (nI n) K := by
  unfold wp_X6_isKind
  refine ⟨fun _ => h, fun c => ⟨fun _ => h, fun c2 => ?_⟩⟩
  obtain ⟨k, hk, rfl⟩ := nI_of c
  exact absurd rfl (hx k ((nI_ltI (by omega) (by omega)).mp (nle_lt c2)))
theorem sp_isCoin_y {k n : Nat} {mno : Nat → Int32} {K : Int32 → Prop} (hk : k < n) (hn : n ≤ 6) (hc : mno k = 0) (h : K 1) : wp_X6_isCoin (nI k) (nI n) mno K := by
  unfold wp_X6_isCoin
  refine sp_isKind_y hk hn ⟨fun e => absurd e (by decide), fun _ => ⟨vp_in_nI (by omega) (by omega), ?_⟩⟩
  rw [nI_clamp (by omega)]
  exact ⟨fun c => absurd hc c, fun _ => h⟩
theorem sp_isCoin_n {x : Int32} {n : Nat} {mno : Nat → Int32} {K : Int32 → Prop} (hn : n ≤ 6) (hx : ∀ k, k < n → x = nI k → ¬ mno k = 0) (h : K 0) : wp_X6_isCoin x (nI n) mno K := by
  unfold wp_X6_isCoin
  rcases isK x n hn with ⟨k, hk, e⟩ | hx2
  · have hh := hx k hk e
    subst e
    refine sp_isKind_y hk hn ⟨fun e => absurd e (by decide), fun _ => ⟨vp_in_nI (by omega) (by omega), ?_⟩⟩
    rw [nI_clamp (by omega)]
    exact ⟨fun _ => h, fun c => absurd c hh⟩
  · exact sp_isKind_n hn hx2 ⟨fun _ => h, fun e => absurd rfl e⟩
/-- a number is a coin's, or isn't -/
theorem isC (x : Int32) (n : Nat) (hn : n ≤ 6) (kn : Nat → Int32) : (∃ k, k < n ∧ x = nI k ∧ kn k = 0) ∨ (∀ k, k < n → x = nI k → ¬ kn k = 0) := by
  rcases isK x n hn with ⟨k, hk, e⟩ | h
  · by_cases c : kn k = 0
    · exact Or.inl ⟨k, hk, e, c⟩
    · refine Or.inr (fun k2 hk2 e2 => ?_)
      have : k = k2 := (nI_eq (by omega) (by omega)).mp (e.symm.trans e2)
      subst this; exact c
  · exact Or.inr (fun k hk e => absurd e (h k hk))

