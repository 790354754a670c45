/-! the worlds: the class's 35 cells, the reference's 17 -/
theorem vp_lt {i : Int32} {n : Nat} (h : vp_in i n) : i.toNatClampNeg < n := Nat.not_le.mp fun q => h (Or.inr q)
def jn {β : Type} (A : β → Prop) (B : β) : Prop := A B
theorem jn_cut {β : Type} {A : β → Prop} {B : β} {G : Prop} (h : jn A B) (k : ∀ Z : β, Z = B → A Z → G) : G := k B rfl h
def cgW (a : Nat → Nat) (q : Nat → ClassId) (sz : Int32) (pr : Nat → Int32) (pm : Nat → Nat) (kv : Nat → Int32) (kn : Nat → Int32) (kr : Nat → Int32) (kt : Nat → Int32) (kb : Nat → Int32) (ks : Nat → Int32) (kj : Nat → Int32) (kw : Nat → Int32) (kg : Nat → Int32) (wd : Nat → Nat → Int64) (fw : Nat → Nat → Int32) (ad : Nat → Int32) (bk : Nat → Int32) (md : Int32) (cr : Int32) (ow : Int32) (hd : Int32) : va_W :=
  [(a 0, .inr (5, [.ref (a 1), .ref (a (17 + 0)), .ref (a 6), .ref (a 8), .ref (a 5), .int md, .int cr, .int ow, .int hd])),
   (a 1, .inr (3, [.ref (a 2), .ref (a 3), .ref (a 4), .int sz])),
   (a 2, .inl (q 3, 6, .inr (.inr (.inr (.inr (fun j => some (a (11 + j)))))))),
   (a 3, .inl (q 3, 6, .inr (.inr (.inr (.inr (fun j => some (a (11 + pm j)))))))),
   (a 4, .inl (q 0, 6, .inl pr)),
   (a 5, .inl (q 0, 6, .inl bk)),
   (a 6, .inr (4, [.ref (a 7)])),
   (a 7, .inl (q 5, 6, .inr (.inr (.inr (.inr (fun j => some (a (29 + j)))))))),
   (a 8, .inr (1, [.ref (a 9), .ref (a 10)])),
   (a 9, .inl (q 0, 6, .inl ad)),
   (a 10, .inl (q 4, 5, .inr (.inr (.inr (.inr (fun j => some (a (17 + (j + 1))))))))),
   (a (11 + 0), .inr (0, [.int (kv 0), .int (kn 0), .int (kr 0), .int (kt 0), .int (kb 0), .int (ks 0), .int (kj 0), .int (kw 0), .int (kg 0)])),
   (a (11 + 1), .inr (0, [.int (kv 1), .int (kn 1), .int (kr 1), .int (kt 1), .int (kb 1), .int (ks 1), .int (kj 1), .int (kw 1), .int (kg 1)])),
   (a (11 + 2), .inr (0, [.int (kv 2), .int (kn 2), .int (kr 2), .int (kt 2), .int (kb 2), .int (ks 2), .int (kj 2), .int (kw 2), .int (kg 2)])),
   (a (11 + 3), .inr (0, [.int (kv 3), .int (kn 3), .int (kr 3), .int (kt 3), .int (kb 3), .int (ks 3), .int (kj 3), .int (kw 3), .int (kg 3)])),
   (a (11 + 4), .inr (0, [.int (kv 4), .int (kn 4), .int (kr 4), .int (kt 4), .int (kb 4), .int (ks 4), .int (kj 4), .int (kw 4), .int (kg 4)])),
   (a (11 + 5), .inr (0, [.int (kv 5), .int (kn 5), .int (kr 5), .int (kt 5), .int (kb 5), .int (ks 5), .int (kj 5), .int (kw 5), .int (kg 5)])),
   (a (17 + 0), .inr (2, [.ref (a (23 + 0))])),
   (a (17 + 1), .inr (2, [.ref (a (23 + 1))])),
   (a (17 + 2), .inr (2, [.ref (a (23 + 2))])),
   (a (17 + 3), .inr (2, [.ref (a (23 + 3))])),
   (a (17 + 4), .inr (2, [.ref (a (23 + 4))])),
   (a (17 + 5), .inr (2, [.ref (a (23 + 5))])),
   (a (23 + 0), .inl (q 1, 16, .inr (.inl (wd 0)))),
   (a (23 + 1), .inl (q 1, 16, .inr (.inl (wd 1)))),
   (a (23 + 2), .inl (q 1, 16, .inr (.inl (wd 2)))),
   (a (23 + 3), .inl (q 1, 16, .inr (.inl (wd 3)))),
   (a (23 + 4), .inl (q 1, 16, .inr (.inl (wd 4)))),
   (a (23 + 5), .inl (q 1, 16, .inr (.inl (wd 5)))),
   (a (29 + 0), .inl (q 0, 1000, .inl (fw 0))),
   (a (29 + 1), .inl (q 0, 1000, .inl (fw 1))),
   (a (29 + 2), .inl (q 0, 1000, .inl (fw 2))),
   (a (29 + 3), .inl (q 0, 1000, .inl (fw 3))),
   (a (29 + 4), .inl (q 0, 1000, .inl (fw 4))),
   (a (29 + 5), .inl (q 0, 1000, .inl (fw 5)))]
def mdW (a : Nat → Nat) (q : Nat → ClassId) (mtd : Int32) (mnk : Int32) (mva : Nat → Int32) (mno : Nat → Int32) (mro : Nat → Int32) (mtu : Nat → Int32) (mbx : Nat → Int32) (mst : Nat → Int32) (mja : Nat → Int32) (mpr : Nat → Int32) (mcr : Int32) (mow : Int32) (mhd : Int32) (mmo : Int32) (mbk : Nat → Int32) (mca : Nat → Int32) (mfr : Nat → Int32) (mrs : Int32) (mrk : Nat → Int32) (mfe : Nat → Int32) (mus : Nat → Int32) (mgi : Nat → Int32) (maj : Nat → Int32) : va_W :=
  [(a 0, .inr (6, [.int mtd, .int mnk, .ref (a 1), .ref (a 2), .ref (a 3), .ref (a 4), .ref (a 5), .ref (a 6), .ref (a 7), .ref (a 8), .int mcr, .int mow, .int mhd, .int mmo, .ref (a 9), .ref (a 10), .ref (a 11), .int mrs, .ref (a 12), .ref (a 13), .ref (a 14), .ref (a 15), .ref (a 16)])),
   (a 1, .inl (q 0, 6, .inl mva)),
   (a 2, .inl (q 2, 6, .inl mno)),
   (a 3, .inl (q 0, 6, .inl mro)),
   (a 4, .inl (q 0, 6, .inl mtu)),
   (a 5, .inl (q 0, 6, .inl mbx)),
   (a 6, .inl (q 2, 6, .inl mst)),
   (a 7, .inl (q 0, 6, .inl mja)),
   (a 8, .inl (q 0, 6, .inl mpr)),
   (a 9, .inl (q 0, 6, .inl mbk)),
   (a 10, .inl (q 2, 1000, .inl mca)),
   (a 11, .inl (q 0, 1000, .inl mfr)),
   (a 12, .inl (q 0, 6, .inl mrk)),
   (a 13, .inl (q 0, 7000, .inl mfe)),
   (a 14, .inl (q 0, 6, .inl mus)),
   (a 15, .inl (q 0, 6, .inl mgi)),
   (a 16, .inl (q 0, 6, .inl maj))]
section CGW
variable {a : Nat → Nat} {q : Nat → ClassId} {sz : Int32} {pr : Nat → Int32} {pm : Nat → Nat} {kv : Nat → Int32} {kn : Nat → Int32} {kr : Nat → Int32} {kt : Nat → Int32} {kb : Nat → Int32} {ks : Nat → Int32} {kj : Nat → Int32} {kw : Nat → Int32} {kg : Nat → Int32} {wd : Nat → Nat → Int64} {fw : Nat → Nat → Int32} {ad : Nat → Int32} {bk : Nat → Int32} {md : Int32} {cr : Int32} {ow : Int32} {hd : Int32}
theorem cg_0 : (cgW a q sz pr pm kv kn kr kt kb ks kj kw kg wd fw ad bk md cr ow hd)[0]? = some (a 0, .inr (5, [.ref (a 1), .ref (a (17 + 0)), .ref (a 6), .ref (a 8), .ref (a 5), .int md, .int cr, .int ow, .int hd])) := rfl
theorem cg_1 : (cgW a q sz pr pm kv kn kr kt kb ks kj kw kg wd fw ad bk md cr ow hd)[1]? = some (a 1, .inr (3, [.ref (a 2), .ref (a 3), .ref (a 4), .int sz])) := rfl
theorem cg_2 : (cgW a q sz pr pm kv kn kr kt kb ks kj kw kg wd fw ad bk md cr ow hd)[2]? = some (a 2, .inl (q 3, 6, .inr (.inr (.inr (.inr (fun j => some (a (11 + j)))))))) := rfl
theorem cg_3 : (cgW a q sz pr pm kv kn kr kt kb ks kj kw kg wd fw ad bk md cr ow hd)[3]? = some (a 3, .inl (q 3, 6, .inr (.inr (.inr (.inr (fun j => some (a (11 + pm j)))))))) := rfl
theorem cg_4 : (cgW a q sz pr pm kv kn kr kt kb ks kj kw kg wd fw ad bk md cr ow hd)[4]? = some (a 4, .inl (q 0, 6, .inl pr)) := rfl
theorem cg_5 : (cgW a q sz pr pm kv kn kr kt kb ks kj kw kg wd fw ad bk md cr ow hd)[5]? = some (a 5, .inl (q 0, 6, .inl bk)) := rfl
theorem cg_6 : (cgW a q sz pr pm kv kn kr kt kb ks kj kw kg wd fw ad bk md cr ow hd)[6]? = some (a 6, .inr (4, [.ref (a 7)])) := rfl
theorem cg_7 : (cgW a q sz pr pm kv kn kr kt kb ks kj kw kg wd fw ad bk md cr ow hd)[7]? = some (a 7, .inl (q 5, 6, .inr (.inr (.inr (.inr (fun j => some (a (29 + j)))))))) := rfl
theorem cg_8 : (cgW a q sz pr pm kv kn kr kt kb ks kj kw kg wd fw ad bk md cr ow hd)[8]? = some (a 8, .inr (1, [.ref (a 9), .ref (a 10)])) := rfl
theorem cg_9 : (cgW a q sz pr pm kv kn kr kt kb ks kj kw kg wd fw ad bk md cr ow hd)[9]? = some (a 9, .inl (q 0, 6, .inl ad)) := rfl
theorem cg_10 : (cgW a q sz pr pm kv kn kr kt kb ks kj kw kg wd fw ad bk md cr ow hd)[10]? = some (a 10, .inl (q 4, 5, .inr (.inr (.inr (.inr (fun j => some (a (17 + (j + 1))))))))) := rfl
theorem cg_K {i : Nat} (hi : i < 6) : (cgW a q sz pr pm kv kn kr kt kb ks kj kw kg wd fw ad bk md cr ow hd)[11 + i]? = some (a (11 + i), .inr (0, [.int (kv i), .int (kn i), .int (kr i), .int (kt i), .int (kb i), .int (ks i), .int (kj i), .int (kw i), .int (kg i)])) := by
  match i, hi with
  | 0, _ => rfl
  | 1, _ => rfl
  | 2, _ => rfl
  | 3, _ => rfl
  | 4, _ => rfl
  | 5, _ => rfl
theorem cg_S {i : Nat} (hi : i < 6) : (cgW a q sz pr pm kv kn kr kt kb ks kj kw kg wd fw ad bk md cr ow hd)[17 + i]? = some (a (17 + i), .inr (2, [.ref (a (23 + i))])) := by
  match i, hi with
  | 0, _ => rfl
  | 1, _ => rfl
  | 2, _ => rfl
  | 3, _ => rfl
  | 4, _ => rfl
  | 5, _ => rfl
theorem cg_w {i : Nat} (hi : i < 6) : (cgW a q sz pr pm kv kn kr kt kb ks kj kw kg wd fw ad bk md cr ow hd)[23 + i]? = some (a (23 + i), .inl (q 1, 16, .inr (.inl (wd i)))) := by
  match i, hi with
  | 0, _ => rfl
  | 1, _ => rfl
  | 2, _ => rfl
  | 3, _ => rfl
  | 4, _ => rfl
  | 5, _ => rfl
theorem cg_r {i : Nat} (hi : i < 6) : (cgW a q sz pr pm kv kn kr kt kb ks kj kw kg wd fw ad bk md cr ow hd)[29 + i]? = some (a (29 + i), .inl (q 0, 1000, .inl (fw i))) := by
  match i, hi with
  | 0, _ => rfl
  | 1, _ => rfl
  | 2, _ => rfl
  | 3, _ => rfl
  | 4, _ => rfl
  | 5, _ => rfl
theorem cg_s_kv {x : Int32} {i : Nat} (hi : i < 6) : (cgW a q sz pr pm kv kn kr kt kb ks kj kw kg wd fw ad bk md cr ow hd).set (11 + i) (a (11 + i), .inr (0, List.set [.int (kv i), .int (kn i), .int (kr i), .int (kt i), .int (kb i), .int (ks i), .int (kj i), .int (kw i), .int (kg i)] 0 (.int x))) = (cgW a q sz pr pm (upd kv i x) kn kr kt kb ks kj kw kg wd fw ad bk md cr ow hd) := by
  match i, hi with
  | 0, _ => rfl
  | 1, _ => rfl
  | 2, _ => rfl
  | 3, _ => rfl
  | 4, _ => rfl
  | 5, _ => rfl
theorem cg_s_kn {x : Int32} {i : Nat} (hi : i < 6) : (cgW a q sz pr pm kv kn kr kt kb ks kj kw kg wd fw ad bk md cr ow hd).set (11 + i) (a (11 + i), .inr (0, List.set [.int (kv i), .int (kn i), .int (kr i), .int (kt i), .int (kb i), .int (ks i), .int (kj i), .int (kw i), .int (kg i)] 1 (.int x))) = (cgW a q sz pr pm kv (upd kn i x) kr kt kb ks kj kw kg wd fw ad bk md cr ow hd) := by
  match i, hi with
  | 0, _ => rfl
  | 1, _ => rfl
  | 2, _ => rfl
  | 3, _ => rfl
  | 4, _ => rfl
  | 5, _ => rfl
theorem cg_s_kr {x : Int32} {i : Nat} (hi : i < 6) : (cgW a q sz pr pm kv kn kr kt kb ks kj kw kg wd fw ad bk md cr ow hd).set (11 + i) (a (11 + i), .inr (0, List.set [.int (kv i), .int (kn i), .int (kr i), .int (kt i), .int (kb i), .int (ks i), .int (kj i), .int (kw i), .int (kg i)] 2 (.int x))) = (cgW a q sz pr pm kv kn (upd kr i x) kt kb ks kj kw kg wd fw ad bk md cr ow hd) := by
  match i, hi with
  | 0, _ => rfl
  | 1, _ => rfl
  | 2, _ => rfl
  | 3, _ => rfl
  | 4, _ => rfl
  | 5, _ => rfl
theorem cg_s_kt {x : Int32} {i : Nat} (hi : i < 6) : (cgW a q sz pr pm kv kn kr kt kb ks kj kw kg wd fw ad bk md cr ow hd).set (11 + i) (a (11 + i), .inr (0, List.set [.int (kv i), .int (kn i), .int (kr i), .int (kt i), .int (kb i), .int (ks i), .int (kj i), .int (kw i), .int (kg i)] 3 (.int x))) = (cgW a q sz pr pm kv kn kr (upd kt i x) kb ks kj kw kg wd fw ad bk md cr ow hd) := by
  match i, hi with
  | 0, _ => rfl
  | 1, _ => rfl
  | 2, _ => rfl
  | 3, _ => rfl
  | 4, _ => rfl
  | 5, _ => rfl
theorem cg_s_kb {x : Int32} {i : Nat} (hi : i < 6) : (cgW a q sz pr pm kv kn kr kt kb ks kj kw kg wd fw ad bk md cr ow hd).set (11 + i) (a (11 + i), .inr (0, List.set [.int (kv i), .int (kn i), .int (kr i), .int (kt i), .int (kb i), .int (ks i), .int (kj i), .int (kw i), .int (kg i)] 4 (.int x))) = (cgW a q sz pr pm kv kn kr kt (upd kb i x) ks kj kw kg wd fw ad bk md cr ow hd) := by
  match i, hi with
  | 0, _ => rfl
  | 1, _ => rfl
  | 2, _ => rfl
  | 3, _ => rfl
  | 4, _ => rfl
  | 5, _ => rfl
theorem cg_s_ks {x : Int32} {i : Nat} (hi : i < 6) : (cgW a q sz pr pm kv kn kr kt kb ks kj kw kg wd fw ad bk md cr ow hd).set (11 + i) (a (11 + i), .inr (0, List.set [.int (kv i), .int (kn i), .int (kr i), .int (kt i), .int (kb i), .int (ks i), .int (kj i), .int (kw i), .int (kg i)] 5 (.int x))) = (cgW a q sz pr pm kv kn kr kt kb (upd ks i x) kj kw kg wd fw ad bk md cr ow hd) := by
  match i, hi with
  | 0, _ => rfl
  | 1, _ => rfl
  | 2, _ => rfl
  | 3, _ => rfl
  | 4, _ => rfl
  | 5, _ => rfl
theorem cg_s_kj {x : Int32} {i : Nat} (hi : i < 6) : (cgW a q sz pr pm kv kn kr kt kb ks kj kw kg wd fw ad bk md cr ow hd).set (11 + i) (a (11 + i), .inr (0, List.set [.int (kv i), .int (kn i), .int (kr i), .int (kt i), .int (kb i), .int (ks i), .int (kj i), .int (kw i), .int (kg i)] 6 (.int x))) = (cgW a q sz pr pm kv kn kr kt kb ks (upd kj i x) kw kg wd fw ad bk md cr ow hd) := by
  match i, hi with
  | 0, _ => rfl
  | 1, _ => rfl
  | 2, _ => rfl
  | 3, _ => rfl
  | 4, _ => rfl
  | 5, _ => rfl
theorem cg_s_kw {x : Int32} {i : Nat} (hi : i < 6) : (cgW a q sz pr pm kv kn kr kt kb ks kj kw kg wd fw ad bk md cr ow hd).set (11 + i) (a (11 + i), .inr (0, List.set [.int (kv i), .int (kn i), .int (kr i), .int (kt i), .int (kb i), .int (ks i), .int (kj i), .int (kw i), .int (kg i)] 7 (.int x))) = (cgW a q sz pr pm kv kn kr kt kb ks kj (upd kw i x) kg wd fw ad bk md cr ow hd) := by
  match i, hi with
  | 0, _ => rfl
  | 1, _ => rfl
  | 2, _ => rfl
  | 3, _ => rfl
  | 4, _ => rfl
  | 5, _ => rfl
theorem cg_s_kg {x : Int32} {i : Nat} (hi : i < 6) : (cgW a q sz pr pm kv kn kr kt kb ks kj kw kg wd fw ad bk md cr ow hd).set (11 + i) (a (11 + i), .inr (0, List.set [.int (kv i), .int (kn i), .int (kr i), .int (kt i), .int (kb i), .int (ks i), .int (kj i), .int (kw i), .int (kg i)] 8 (.int x))) = (cgW a q sz pr pm kv kn kr kt kb ks kj kw (upd kg i x) wd fw ad bk md cr ow hd) := by
  match i, hi with
  | 0, _ => rfl
  | 1, _ => rfl
  | 2, _ => rfl
  | 3, _ => rfl
  | 4, _ => rfl
  | 5, _ => rfl
theorem cg_s_w {g : Nat → Int64} {i : Nat} (hi : i < 6) : (cgW a q sz pr pm kv kn kr kt kb ks kj kw kg wd fw ad bk md cr ow hd).set (23 + i) (a (23 + i), .inl (q 1, 16, .inr (.inl g))) = (cgW a q sz pr pm kv kn kr kt kb ks kj kw kg (va_up wd i g) fw ad bk md cr ow hd) := by
  match i, hi with
  | 0, _ => rfl
  | 1, _ => rfl
  | 2, _ => rfl
  | 3, _ => rfl
  | 4, _ => rfl
  | 5, _ => rfl
theorem cg_s_r {g : Nat → Int32} {i : Nat} (hi : i < 6) : (cgW a q sz pr pm kv kn kr kt kb ks kj kw kg wd fw ad bk md cr ow hd).set (29 + i) (a (29 + i), .inl (q 0, 1000, .inl g)) = (cgW a q sz pr pm kv kn kr kt kb ks kj kw kg wd (va_up fw i g) ad bk md cr ow hd) := by
  match i, hi with
  | 0, _ => rfl
  | 1, _ => rfl
  | 2, _ => rfl
  | 3, _ => rfl
  | 4, _ => rfl
  | 5, _ => rfl
theorem cg_up_pm {k x : Nat} : va_up (fun j => some (a (11 + pm j))) k (some (a (11 + x))) = fun j => some (a (11 + va_up pm k x j)) := by
  funext j
  unfold va_up
  by_cases h : j = k <;> simp [h]
theorem cg_s_pm {k x : Nat} : (cgW a q sz pr pm kv kn kr kt kb ks kj kw kg wd fw ad bk md cr ow hd).set 3 (a 3, .inl (q 3, 6, .inr (.inr (.inr (.inr (va_up (fun j => some (a (11 + pm j))) k (some (a (11 + x))))))))) = (cgW a q sz pr (va_up pm k x) kv kn kr kt kb ks kj kw kg wd fw ad bk md cr ow hd) := by
  rw [cg_up_pm]
  rfl
end CGW
section MDW
variable {a : Nat → Nat} {q : Nat → ClassId} {mtd : Int32} {mnk : Int32} {mva : Nat → Int32} {mno : Nat → Int32} {mro : Nat → Int32} {mtu : Nat → Int32} {mbx : Nat → Int32} {mst : Nat → Int32} {mja : Nat → Int32} {mpr : Nat → Int32} {mcr : Int32} {mow : Int32} {mhd : Int32} {mmo : Int32} {mbk : Nat → Int32} {mca : Nat → Int32} {mfr : Nat → Int32} {mrs : Int32} {mrk : Nat → Int32} {mfe : Nat → Int32} {mus : Nat → Int32} {mgi : Nat → Int32} {maj : Nat → Int32}
theorem md_0 : (mdW a q mtd mnk mva mno mro mtu mbx mst mja mpr mcr mow mhd mmo mbk mca mfr mrs mrk mfe mus mgi maj)[0]? = some (a 0, .inr (6, [.int mtd, .int mnk, .ref (a 1), .ref (a 2), .ref (a 3), .ref (a 4), .ref (a 5), .ref (a 6), .ref (a 7), .ref (a 8), .int mcr, .int mow, .int mhd, .int mmo, .ref (a 9), .ref (a 10), .ref (a 11), .int mrs, .ref (a 12), .ref (a 13), .ref (a 14), .ref (a 15), .ref (a 16)])) := rfl
theorem md_1 : (mdW a q mtd mnk mva mno mro mtu mbx mst mja mpr mcr mow mhd mmo mbk mca mfr mrs mrk mfe mus mgi maj)[1]? = some (a 1, .inl (q 0, 6, .inl mva)) := rfl
theorem md_2 : (mdW a q mtd mnk mva mno mro mtu mbx mst mja mpr mcr mow mhd mmo mbk mca mfr mrs mrk mfe mus mgi maj)[2]? = some (a 2, .inl (q 2, 6, .inl mno)) := rfl
theorem md_3 : (mdW a q mtd mnk mva mno mro mtu mbx mst mja mpr mcr mow mhd mmo mbk mca mfr mrs mrk mfe mus mgi maj)[3]? = some (a 3, .inl (q 0, 6, .inl mro)) := rfl
theorem md_4 : (mdW a q mtd mnk mva mno mro mtu mbx mst mja mpr mcr mow mhd mmo mbk mca mfr mrs mrk mfe mus mgi maj)[4]? = some (a 4, .inl (q 0, 6, .inl mtu)) := rfl
theorem md_5 : (mdW a q mtd mnk mva mno mro mtu mbx mst mja mpr mcr mow mhd mmo mbk mca mfr mrs mrk mfe mus mgi maj)[5]? = some (a 5, .inl (q 0, 6, .inl mbx)) := rfl
theorem md_6 : (mdW a q mtd mnk mva mno mro mtu mbx mst mja mpr mcr mow mhd mmo mbk mca mfr mrs mrk mfe mus mgi maj)[6]? = some (a 6, .inl (q 2, 6, .inl mst)) := rfl
theorem md_7 : (mdW a q mtd mnk mva mno mro mtu mbx mst mja mpr mcr mow mhd mmo mbk mca mfr mrs mrk mfe mus mgi maj)[7]? = some (a 7, .inl (q 0, 6, .inl mja)) := rfl
theorem md_8 : (mdW a q mtd mnk mva mno mro mtu mbx mst mja mpr mcr mow mhd mmo mbk mca mfr mrs mrk mfe mus mgi maj)[8]? = some (a 8, .inl (q 0, 6, .inl mpr)) := rfl
theorem md_9 : (mdW a q mtd mnk mva mno mro mtu mbx mst mja mpr mcr mow mhd mmo mbk mca mfr mrs mrk mfe mus mgi maj)[9]? = some (a 9, .inl (q 0, 6, .inl mbk)) := rfl
theorem md_10 : (mdW a q mtd mnk mva mno mro mtu mbx mst mja mpr mcr mow mhd mmo mbk mca mfr mrs mrk mfe mus mgi maj)[10]? = some (a 10, .inl (q 2, 1000, .inl mca)) := rfl
theorem md_11 : (mdW a q mtd mnk mva mno mro mtu mbx mst mja mpr mcr mow mhd mmo mbk mca mfr mrs mrk mfe mus mgi maj)[11]? = some (a 11, .inl (q 0, 1000, .inl mfr)) := rfl
theorem md_12 : (mdW a q mtd mnk mva mno mro mtu mbx mst mja mpr mcr mow mhd mmo mbk mca mfr mrs mrk mfe mus mgi maj)[12]? = some (a 12, .inl (q 0, 6, .inl mrk)) := rfl
theorem md_13 : (mdW a q mtd mnk mva mno mro mtu mbx mst mja mpr mcr mow mhd mmo mbk mca mfr mrs mrk mfe mus mgi maj)[13]? = some (a 13, .inl (q 0, 7000, .inl mfe)) := rfl
theorem md_14 : (mdW a q mtd mnk mva mno mro mtu mbx mst mja mpr mcr mow mhd mmo mbk mca mfr mrs mrk mfe mus mgi maj)[14]? = some (a 14, .inl (q 0, 6, .inl mus)) := rfl
theorem md_15 : (mdW a q mtd mnk mva mno mro mtu mbx mst mja mpr mcr mow mhd mmo mbk mca mfr mrs mrk mfe mus mgi maj)[15]? = some (a 15, .inl (q 0, 6, .inl mgi)) := rfl
theorem md_16 : (mdW a q mtd mnk mva mno mro mtu mbx mst mja mpr mcr mow mhd mmo mbk mca mfr mrs mrk mfe mus mgi maj)[16]? = some (a 16, .inl (q 0, 6, .inl maj)) := rfl
end MDW
