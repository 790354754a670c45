/-! the law -/
def RL : String := "ChangeGiverLaw"
abbrev cL_law : ByteArray := code
section JFN
variable {Γ : GT} {cc : ByteArray} {own : String} {nL kc ks : Nat} {rm : Room} {q : Nat → ClassId} {W1 W2 : va_W} {lv : List (Nat × Value)} {st : List Value} {pc : Nat}
variable {y : MethodName} {ccY : ByteArray} {nY frY loY index n : Nat}
theorem j_fLI_0 (g : gd Γ cc own nL rm q) {b : Nat} {As : List Value} {Wd : va_W} {K : Int32 → Prop} {st0 : List Value} (hC : ctI_0 q y ccY nY frY loY (.ref b :: As) W1 Wd K) (L : clV own index y ccY nY (some .int) n) (q0 ci : Nat) {fs : List Value} {rc : vw_C} (he : W1[q0]? = some (b, .inr (ci, fs))) (hrc : jclasses[ci]? = some rc) (hcn : rc.1 = y.cls) (hfr : frY + 1 ≤ rm.frames) (hlo : 8 + (nY + 11) + loY ≤ rm.locals) (hcells : kc + 0 ≤ rm.cells) (hslots : ks + 0 ≤ rm.slots) (hAs : As.length = n) (hst : st0 = As.reverse ++ .ref b :: st) (hcat : (st.map fun v => v.category).sum ≤ 8) (hd : decode cc pc = .ok (.invokevirtual index, 3)) (k : ∀ (r : Int32) , K r  → jw Γ nL kc ks (Wd  ++ W2) lv (.int r :: st) (pc + 3)) : jw Γ nL kc ks (W1 ++ W2) lv st0 pc :=
  j_fLI g hC L q0 ci he hrc hcn hfr hlo hcells hslots hAs hst hcat hd (fun r u h => k r  h)
theorem j_fLI_1 (g : gd Γ cc own nL rm q) {b : Nat} {As : List Value} {A1 : Type} {Wd : A1 → va_W} {K : Int32 → A1 → Prop} {st0 : List Value} (hC : ctI_1 q y ccY nY frY loY (.ref b :: As) W1 Wd K) (L : clV own index y ccY nY (some .int) n) (q0 ci : Nat) {fs : List Value} {rc : vw_C} (he : W1[q0]? = some (b, .inr (ci, fs))) (hrc : jclasses[ci]? = some rc) (hcn : rc.1 = y.cls) (hfr : frY + 1 ≤ rm.frames) (hlo : 8 + (nY + 11) + loY ≤ rm.locals) (hcells : kc + 0 ≤ rm.cells) (hslots : ks + 0 ≤ rm.slots) (hAs : As.length = n) (hst : st0 = As.reverse ++ .ref b :: st) (hcat : (st.map fun v => v.category).sum ≤ 8) (hd : decode cc pc = .ok (.invokevirtual index, 3)) (k : ∀ (r : Int32) (m1 : A1), K r m1 → jw Γ nL kc ks (Wd m1 ++ W2) lv (.int r :: st) (pc + 3)) : jw Γ nL kc ks (W1 ++ W2) lv st0 pc :=
  j_fLI g hC L q0 ci he hrc hcn hfr hlo hcells hslots hAs hst hcat hd (fun r u h => k r u h)
theorem j_fLI_2 (g : gd Γ cc own nL rm q) {b : Nat} {As : List Value} {A1 A2 : Type} {Wd : A1 → A2 → va_W} {K : Int32 → A1 → A2 → Prop} {st0 : List Value} (hC : ctI_2 q y ccY nY frY loY (.ref b :: As) W1 Wd K) (L : clV own index y ccY nY (some .int) n) (q0 ci : Nat) {fs : List Value} {rc : vw_C} (he : W1[q0]? = some (b, .inr (ci, fs))) (hrc : jclasses[ci]? = some rc) (hcn : rc.1 = y.cls) (hfr : frY + 1 ≤ rm.frames) (hlo : 8 + (nY + 11) + loY ≤ rm.locals) (hcells : kc + 0 ≤ rm.cells) (hslots : ks + 0 ≤ rm.slots) (hAs : As.length = n) (hst : st0 = As.reverse ++ .ref b :: st) (hcat : (st.map fun v => v.category).sum ≤ 8) (hd : decode cc pc = .ok (.invokevirtual index, 3)) (k : ∀ (r : Int32) (m1 : A1) (m2 : A2), K r m1 m2 → jw Γ nL kc ks (Wd m1 m2 ++ W2) lv (.int r :: st) (pc + 3)) : jw Γ nL kc ks (W1 ++ W2) lv st0 pc :=
  j_fLI g hC L q0 ci he hrc hcn hfr hlo hcells hslots hAs hst hcat hd (fun r u h => k r u.1 u.2 h)
theorem j_fLI_3 (g : gd Γ cc own nL rm q) {b : Nat} {As : List Value} {A1 A2 A3 : Type} {Wd : A1 → A2 → A3 → va_W} {K : Int32 → A1 → A2 → A3 → Prop} {st0 : List Value} (hC : ctI_3 q y ccY nY frY loY (.ref b :: As) W1 Wd K) (L : clV own index y ccY nY (some .int) n) (q0 ci : Nat) {fs : List Value} {rc : vw_C} (he : W1[q0]? = some (b, .inr (ci, fs))) (hrc : jclasses[ci]? = some rc) (hcn : rc.1 = y.cls) (hfr : frY + 1 ≤ rm.frames) (hlo : 8 + (nY + 11) + loY ≤ rm.locals) (hcells : kc + 0 ≤ rm.cells) (hslots : ks + 0 ≤ rm.slots) (hAs : As.length = n) (hst : st0 = As.reverse ++ .ref b :: st) (hcat : (st.map fun v => v.category).sum ≤ 8) (hd : decode cc pc = .ok (.invokevirtual index, 3)) (k : ∀ (r : Int32) (m1 : A1) (m2 : A2) (m3 : A3), K r m1 m2 m3 → jw Γ nL kc ks (Wd m1 m2 m3 ++ W2) lv (.int r :: st) (pc + 3)) : jw Γ nL kc ks (W1 ++ W2) lv st0 pc :=
  j_fLI g hC L q0 ci he hrc hcn hfr hlo hcells hslots hAs hst hcat hd (fun r u h => k r u.1 u.2.1 u.2.2 h)
theorem j_fLI_5 (g : gd Γ cc own nL rm q) {b : Nat} {As : List Value} {A1 A2 A3 A4 A5 : Type} {Wd : A1 → A2 → A3 → A4 → A5 → va_W} {K : Int32 → A1 → A2 → A3 → A4 → A5 → Prop} {st0 : List Value} (hC : ctI_5 q y ccY nY frY loY (.ref b :: As) W1 Wd K) (L : clV own index y ccY nY (some .int) n) (q0 ci : Nat) {fs : List Value} {rc : vw_C} (he : W1[q0]? = some (b, .inr (ci, fs))) (hrc : jclasses[ci]? = some rc) (hcn : rc.1 = y.cls) (hfr : frY + 1 ≤ rm.frames) (hlo : 8 + (nY + 11) + loY ≤ rm.locals) (hcells : kc + 0 ≤ rm.cells) (hslots : ks + 0 ≤ rm.slots) (hAs : As.length = n) (hst : st0 = As.reverse ++ .ref b :: st) (hcat : (st.map fun v => v.category).sum ≤ 8) (hd : decode cc pc = .ok (.invokevirtual index, 3)) (k : ∀ (r : Int32) (m1 : A1) (m2 : A2) (m3 : A3) (m4 : A4) (m5 : A5), K r m1 m2 m3 m4 m5 → jw Γ nL kc ks (Wd m1 m2 m3 m4 m5 ++ W2) lv (.int r :: st) (pc + 3)) : jw Γ nL kc ks (W1 ++ W2) lv st0 pc :=
  j_fLI g hC L q0 ci he hrc hcn hfr hlo hcells hslots hAs hst hcat hd (fun r u h => k r u.1 u.2.1 u.2.2.1 u.2.2.2.1 u.2.2.2.2 h)
theorem j_fLI_6 (g : gd Γ cc own nL rm q) {b : Nat} {As : List Value} {A1 A2 A3 A4 A5 A6 : Type} {Wd : A1 → A2 → A3 → A4 → A5 → A6 → va_W} {K : Int32 → A1 → A2 → A3 → A4 → A5 → A6 → Prop} {st0 : List Value} (hC : ctI_6 q y ccY nY frY loY (.ref b :: As) W1 Wd K) (L : clV own index y ccY nY (some .int) n) (q0 ci : Nat) {fs : List Value} {rc : vw_C} (he : W1[q0]? = some (b, .inr (ci, fs))) (hrc : jclasses[ci]? = some rc) (hcn : rc.1 = y.cls) (hfr : frY + 1 ≤ rm.frames) (hlo : 8 + (nY + 11) + loY ≤ rm.locals) (hcells : kc + 0 ≤ rm.cells) (hslots : ks + 0 ≤ rm.slots) (hAs : As.length = n) (hst : st0 = As.reverse ++ .ref b :: st) (hcat : (st.map fun v => v.category).sum ≤ 8) (hd : decode cc pc = .ok (.invokevirtual index, 3)) (k : ∀ (r : Int32) (m1 : A1) (m2 : A2) (m3 : A3) (m4 : A4) (m5 : A5) (m6 : A6), K r m1 m2 m3 m4 m5 m6 → jw Γ nL kc ks (Wd m1 m2 m3 m4 m5 m6 ++ W2) lv (.int r :: st) (pc + 3)) : jw Γ nL kc ks (W1 ++ W2) lv st0 pc :=
  j_fLI g hC L q0 ci he hrc hcn hfr hlo hcells hslots hAs hst hcat hd (fun r u h => k r u.1 u.2.1 u.2.2.1 u.2.2.2.1 u.2.2.2.2.1 u.2.2.2.2.2 h)
theorem j_fLI_9 (g : gd Γ cc own nL rm q) {b : Nat} {As : List Value} {A1 A2 A3 A4 A5 A6 A7 A8 A9 : Type} {Wd : A1 → A2 → A3 → A4 → A5 → A6 → A7 → A8 → A9 → va_W} {K : Int32 → A1 → A2 → A3 → A4 → A5 → A6 → A7 → A8 → A9 → Prop} {st0 : List Value} (hC : ctI_9 q y ccY nY frY loY (.ref b :: As) W1 Wd K) (L : clV own index y ccY nY (some .int) n) (q0 ci : Nat) {fs : List Value} {rc : vw_C} (he : W1[q0]? = some (b, .inr (ci, fs))) (hrc : jclasses[ci]? = some rc) (hcn : rc.1 = y.cls) (hfr : frY + 1 ≤ rm.frames) (hlo : 8 + (nY + 11) + loY ≤ rm.locals) (hcells : kc + 0 ≤ rm.cells) (hslots : ks + 0 ≤ rm.slots) (hAs : As.length = n) (hst : st0 = As.reverse ++ .ref b :: st) (hcat : (st.map fun v => v.category).sum ≤ 8) (hd : decode cc pc = .ok (.invokevirtual index, 3)) (k : ∀ (r : Int32) (m1 : A1) (m2 : A2) (m3 : A3) (m4 : A4) (m5 : A5) (m6 : A6) (m7 : A7) (m8 : A8) (m9 : A9), K r m1 m2 m3 m4 m5 m6 m7 m8 m9 → jw Γ nL kc ks (Wd m1 m2 m3 m4 m5 m6 m7 m8 m9 ++ W2) lv (.int r :: st) (pc + 3)) : jw Γ nL kc ks (W1 ++ W2) lv st0 pc :=
  j_fLI g hC L q0 ci he hrc hcn hfr hlo hcells hslots hAs hst hcat hd (fun r u h => k r u.1 u.2.1 u.2.2.1 u.2.2.2.1 u.2.2.2.2.1 u.2.2.2.2.2.1 u.2.2.2.2.2.2.1 u.2.2.2.2.2.2.2.1 u.2.2.2.2.2.2.2.2 h)
theorem j_fLI_11 (g : gd Γ cc own nL rm q) {b : Nat} {As : List Value} {A1 A2 A3 A4 A5 A6 A7 A8 A9 A10 A11 : Type} {Wd : A1 → A2 → A3 → A4 → A5 → A6 → A7 → A8 → A9 → A10 → A11 → va_W} {K : Int32 → A1 → A2 → A3 → A4 → A5 → A6 → A7 → A8 → A9 → A10 → A11 → Prop} {st0 : List Value} (hC : ctI_11 q y ccY nY frY loY (.ref b :: As) W1 Wd K) (L : clV own index y ccY nY (some .int) n) (q0 ci : Nat) {fs : List Value} {rc : vw_C} (he : W1[q0]? = some (b, .inr (ci, fs))) (hrc : jclasses[ci]? = some rc) (hcn : rc.1 = y.cls) (hfr : frY + 1 ≤ rm.frames) (hlo : 8 + (nY + 11) + loY ≤ rm.locals) (hcells : kc + 0 ≤ rm.cells) (hslots : ks + 0 ≤ rm.slots) (hAs : As.length = n) (hst : st0 = As.reverse ++ .ref b :: st) (hcat : (st.map fun v => v.category).sum ≤ 8) (hd : decode cc pc = .ok (.invokevirtual index, 3)) (k : ∀ (r : Int32) (m1 : A1) (m2 : A2) (m3 : A3) (m4 : A4) (m5 : A5) (m6 : A6) (m7 : A7) (m8 : A8) (m9 : A9) (m10 : A10) (m11 : A11), K r m1 m2 m3 m4 m5 m6 m7 m8 m9 m10 m11 → jw Γ nL kc ks (Wd m1 m2 m3 m4 m5 m6 m7 m8 m9 m10 m11 ++ W2) lv (.int r :: st) (pc + 3)) : jw Γ nL kc ks (W1 ++ W2) lv st0 pc :=
  j_fLI g hC L q0 ci he hrc hcn hfr hlo hcells hslots hAs hst hcat hd (fun r u h => k r u.1 u.2.1 u.2.2.1 u.2.2.2.1 u.2.2.2.2.1 u.2.2.2.2.2.1 u.2.2.2.2.2.2.1 u.2.2.2.2.2.2.2.1 u.2.2.2.2.2.2.2.2.1 u.2.2.2.2.2.2.2.2.2.1 u.2.2.2.2.2.2.2.2.2.2 h)
theorem j_fLI_12 (g : gd Γ cc own nL rm q) {b : Nat} {As : List Value} {A1 A2 A3 A4 A5 A6 A7 A8 A9 A10 A11 A12 : Type} {Wd : A1 → A2 → A3 → A4 → A5 → A6 → A7 → A8 → A9 → A10 → A11 → A12 → va_W} {K : Int32 → A1 → A2 → A3 → A4 → A5 → A6 → A7 → A8 → A9 → A10 → A11 → A12 → Prop} {st0 : List Value} (hC : ctI_12 q y ccY nY frY loY (.ref b :: As) W1 Wd K) (L : clV own index y ccY nY (some .int) n) (q0 ci : Nat) {fs : List Value} {rc : vw_C} (he : W1[q0]? = some (b, .inr (ci, fs))) (hrc : jclasses[ci]? = some rc) (hcn : rc.1 = y.cls) (hfr : frY + 1 ≤ rm.frames) (hlo : 8 + (nY + 11) + loY ≤ rm.locals) (hcells : kc + 0 ≤ rm.cells) (hslots : ks + 0 ≤ rm.slots) (hAs : As.length = n) (hst : st0 = As.reverse ++ .ref b :: st) (hcat : (st.map fun v => v.category).sum ≤ 8) (hd : decode cc pc = .ok (.invokevirtual index, 3)) (k : ∀ (r : Int32) (m1 : A1) (m2 : A2) (m3 : A3) (m4 : A4) (m5 : A5) (m6 : A6) (m7 : A7) (m8 : A8) (m9 : A9) (m10 : A10) (m11 : A11) (m12 : A12), K r m1 m2 m3 m4 m5 m6 m7 m8 m9 m10 m11 m12 → jw Γ nL kc ks (Wd m1 m2 m3 m4 m5 m6 m7 m8 m9 m10 m11 m12 ++ W2) lv (.int r :: st) (pc + 3)) : jw Γ nL kc ks (W1 ++ W2) lv st0 pc :=
  j_fLI g hC L q0 ci he hrc hcn hfr hlo hcells hslots hAs hst hcat hd (fun r u h => k r u.1 u.2.1 u.2.2.1 u.2.2.2.1 u.2.2.2.2.1 u.2.2.2.2.2.1 u.2.2.2.2.2.2.1 u.2.2.2.2.2.2.2.1 u.2.2.2.2.2.2.2.2.1 u.2.2.2.2.2.2.2.2.2.1 u.2.2.2.2.2.2.2.2.2.2.1 u.2.2.2.2.2.2.2.2.2.2.2 h)
theorem j_fLZ_1 (g : gd Γ cc own nL rm q) {b : Nat} {As : List Value} {A1 : Type} {Wd : A1 → va_W} {K : Int32 → A1 → Prop} {st0 : List Value} (hC : ctZ_1 q y ccY nY frY loY (.ref b :: As) W1 Wd K) (L : clV own index y ccY nY (some .boolean) n) (q0 ci : Nat) {fs : List Value} {rc : vw_C} (he : W1[q0]? = some (b, .inr (ci, fs))) (hrc : jclasses[ci]? = some rc) (hcn : rc.1 = y.cls) (hfr : frY + 1 ≤ rm.frames) (hlo : 8 + (nY + 11) + loY ≤ rm.locals) (hcells : kc + 0 ≤ rm.cells) (hslots : ks + 0 ≤ rm.slots) (hAs : As.length = n) (hst : st0 = As.reverse ++ .ref b :: st) (hcat : (st.map fun v => v.category).sum ≤ 8) (hd : decode cc pc = .ok (.invokevirtual index, 3)) (k : ∀ (r : Int32) (m1 : A1), (r = 0 ∨ r = 1) → K r m1 → jw Γ nL kc ks (Wd m1 ++ W2) lv (.int r :: st) (pc + 3)) : jw Γ nL kc ks (W1 ++ W2) lv st0 pc :=
  j_fLZ g hC L q0 ci he hrc hcn hfr hlo hcells hslots hAs hst hcat hd (fun r u hz h => k r u hz h)
theorem j_fLZ_2 (g : gd Γ cc own nL rm q) {b : Nat} {As : List Value} {A1 A2 : Type} {Wd : A1 → A2 → va_W} {K : Int32 → A1 → A2 → Prop} {st0 : List Value} (hC : ctZ_2 q y ccY nY frY loY (.ref b :: As) W1 Wd K) (L : clV own index y ccY nY (some .boolean) n) (q0 ci : Nat) {fs : List Value} {rc : vw_C} (he : W1[q0]? = some (b, .inr (ci, fs))) (hrc : jclasses[ci]? = some rc) (hcn : rc.1 = y.cls) (hfr : frY + 1 ≤ rm.frames) (hlo : 8 + (nY + 11) + loY ≤ rm.locals) (hcells : kc + 0 ≤ rm.cells) (hslots : ks + 0 ≤ rm.slots) (hAs : As.length = n) (hst : st0 = As.reverse ++ .ref b :: st) (hcat : (st.map fun v => v.category).sum ≤ 8) (hd : decode cc pc = .ok (.invokevirtual index, 3)) (k : ∀ (r : Int32) (m1 : A1) (m2 : A2), (r = 0 ∨ r = 1) → K r m1 m2 → jw Γ nL kc ks (Wd m1 m2 ++ W2) lv (.int r :: st) (pc + 3)) : jw Γ nL kc ks (W1 ++ W2) lv st0 pc :=
  j_fLZ g hC L q0 ci he hrc hcn hfr hlo hcells hslots hAs hst hcat hd (fun r u hz h => k r u.1 u.2 hz h)
theorem j_fRI_1 (g : gd Γ cc own nL rm q) {b : Nat} {As : List Value} {A1 : Type} {Wd : A1 → va_W} {K : Int32 → A1 → Prop} {st0 : List Value} (hC : ctI_1 q y ccY nY frY loY (.ref b :: As) W2 Wd K) (L : clV own index y ccY nY (some .int) n) (q0 ci : Nat) {fs : List Value} {rc : vw_C} (he : W2[q0]? = some (b, .inr (ci, fs))) (hrc : jclasses[ci]? = some rc) (hcn : rc.1 = y.cls) (hfr : frY + 1 ≤ rm.frames) (hlo : 8 + (nY + 11) + loY ≤ rm.locals) (hcells : kc + 0 ≤ rm.cells) (hslots : ks + 0 ≤ rm.slots) (hAs : As.length = n) (hst : st0 = As.reverse ++ .ref b :: st) (hcat : (st.map fun v => v.category).sum ≤ 8) (hd : decode cc pc = .ok (.invokevirtual index, 3)) (k : ∀ (r : Int32) (m1 : A1), K r m1 → jw Γ nL kc ks (W1 ++ Wd m1) lv (.int r :: st) (pc + 3)) : jw Γ nL kc ks (W1 ++ W2) lv st0 pc :=
  j_fRI g hC L q0 ci he hrc hcn hfr hlo hcells hslots hAs hst hcat hd (fun r u h => k r u h)
theorem j_fRI_3 (g : gd Γ cc own nL rm q) {b : Nat} {As : List Value} {A1 A2 A3 : Type} {Wd : A1 → A2 → A3 → va_W} {K : Int32 → A1 → A2 → A3 → Prop} {st0 : List Value} (hC : ctI_3 q y ccY nY frY loY (.ref b :: As) W2 Wd K) (L : clV own index y ccY nY (some .int) n) (q0 ci : Nat) {fs : List Value} {rc : vw_C} (he : W2[q0]? = some (b, .inr (ci, fs))) (hrc : jclasses[ci]? = some rc) (hcn : rc.1 = y.cls) (hfr : frY + 1 ≤ rm.frames) (hlo : 8 + (nY + 11) + loY ≤ rm.locals) (hcells : kc + 0 ≤ rm.cells) (hslots : ks + 0 ≤ rm.slots) (hAs : As.length = n) (hst : st0 = As.reverse ++ .ref b :: st) (hcat : (st.map fun v => v.category).sum ≤ 8) (hd : decode cc pc = .ok (.invokevirtual index, 3)) (k : ∀ (r : Int32) (m1 : A1) (m2 : A2) (m3 : A3), K r m1 m2 m3 → jw Γ nL kc ks (W1 ++ Wd m1 m2 m3) lv (.int r :: st) (pc + 3)) : jw Γ nL kc ks (W1 ++ W2) lv st0 pc :=
  j_fRI g hC L q0 ci he hrc hcn hfr hlo hcells hslots hAs hst hcat hd (fun r u h => k r u.1 u.2.1 u.2.2 h)
theorem j_fRI_4 (g : gd Γ cc own nL rm q) {b : Nat} {As : List Value} {A1 A2 A3 A4 : Type} {Wd : A1 → A2 → A3 → A4 → va_W} {K : Int32 → A1 → A2 → A3 → A4 → Prop} {st0 : List Value} (hC : ctI_4 q y ccY nY frY loY (.ref b :: As) W2 Wd K) (L : clV own index y ccY nY (some .int) n) (q0 ci : Nat) {fs : List Value} {rc : vw_C} (he : W2[q0]? = some (b, .inr (ci, fs))) (hrc : jclasses[ci]? = some rc) (hcn : rc.1 = y.cls) (hfr : frY + 1 ≤ rm.frames) (hlo : 8 + (nY + 11) + loY ≤ rm.locals) (hcells : kc + 0 ≤ rm.cells) (hslots : ks + 0 ≤ rm.slots) (hAs : As.length = n) (hst : st0 = As.reverse ++ .ref b :: st) (hcat : (st.map fun v => v.category).sum ≤ 8) (hd : decode cc pc = .ok (.invokevirtual index, 3)) (k : ∀ (r : Int32) (m1 : A1) (m2 : A2) (m3 : A3) (m4 : A4), K r m1 m2 m3 m4 → jw Γ nL kc ks (W1 ++ Wd m1 m2 m3 m4) lv (.int r :: st) (pc + 3)) : jw Γ nL kc ks (W1 ++ W2) lv st0 pc :=
  j_fRI g hC L q0 ci he hrc hcn hfr hlo hcells hslots hAs hst hcat hd (fun r u h => k r u.1 u.2.1 u.2.2.1 u.2.2.2 h)
theorem j_fRI_5 (g : gd Γ cc own nL rm q) {b : Nat} {As : List Value} {A1 A2 A3 A4 A5 : Type} {Wd : A1 → A2 → A3 → A4 → A5 → va_W} {K : Int32 → A1 → A2 → A3 → A4 → A5 → Prop} {st0 : List Value} (hC : ctI_5 q y ccY nY frY loY (.ref b :: As) W2 Wd K) (L : clV own index y ccY nY (some .int) n) (q0 ci : Nat) {fs : List Value} {rc : vw_C} (he : W2[q0]? = some (b, .inr (ci, fs))) (hrc : jclasses[ci]? = some rc) (hcn : rc.1 = y.cls) (hfr : frY + 1 ≤ rm.frames) (hlo : 8 + (nY + 11) + loY ≤ rm.locals) (hcells : kc + 0 ≤ rm.cells) (hslots : ks + 0 ≤ rm.slots) (hAs : As.length = n) (hst : st0 = As.reverse ++ .ref b :: st) (hcat : (st.map fun v => v.category).sum ≤ 8) (hd : decode cc pc = .ok (.invokevirtual index, 3)) (k : ∀ (r : Int32) (m1 : A1) (m2 : A2) (m3 : A3) (m4 : A4) (m5 : A5), K r m1 m2 m3 m4 m5 → jw Γ nL kc ks (W1 ++ Wd m1 m2 m3 m4 m5) lv (.int r :: st) (pc + 3)) : jw Γ nL kc ks (W1 ++ W2) lv st0 pc :=
  j_fRI g hC L q0 ci he hrc hcn hfr hlo hcells hslots hAs hst hcat hd (fun r u h => k r u.1 u.2.1 u.2.2.1 u.2.2.2.1 u.2.2.2.2 h)
theorem j_fRI_8 (g : gd Γ cc own nL rm q) {b : Nat} {As : List Value} {A1 A2 A3 A4 A5 A6 A7 A8 : Type} {Wd : A1 → A2 → A3 → A4 → A5 → A6 → A7 → A8 → va_W} {K : Int32 → A1 → A2 → A3 → A4 → A5 → A6 → A7 → A8 → Prop} {st0 : List Value} (hC : ctI_8 q y ccY nY frY loY (.ref b :: As) W2 Wd K) (L : clV own index y ccY nY (some .int) n) (q0 ci : Nat) {fs : List Value} {rc : vw_C} (he : W2[q0]? = some (b, .inr (ci, fs))) (hrc : jclasses[ci]? = some rc) (hcn : rc.1 = y.cls) (hfr : frY + 1 ≤ rm.frames) (hlo : 8 + (nY + 11) + loY ≤ rm.locals) (hcells : kc + 0 ≤ rm.cells) (hslots : ks + 0 ≤ rm.slots) (hAs : As.length = n) (hst : st0 = As.reverse ++ .ref b :: st) (hcat : (st.map fun v => v.category).sum ≤ 8) (hd : decode cc pc = .ok (.invokevirtual index, 3)) (k : ∀ (r : Int32) (m1 : A1) (m2 : A2) (m3 : A3) (m4 : A4) (m5 : A5) (m6 : A6) (m7 : A7) (m8 : A8), K r m1 m2 m3 m4 m5 m6 m7 m8 → jw Γ nL kc ks (W1 ++ Wd m1 m2 m3 m4 m5 m6 m7 m8) lv (.int r :: st) (pc + 3)) : jw Γ nL kc ks (W1 ++ W2) lv st0 pc :=
  j_fRI g hC L q0 ci he hrc hcn hfr hlo hcells hslots hAs hst hcat hd (fun r u h => k r u.1 u.2.1 u.2.2.1 u.2.2.2.1 u.2.2.2.2.1 u.2.2.2.2.2.1 u.2.2.2.2.2.2.1 u.2.2.2.2.2.2.2 h)
theorem j_fRI_13 (g : gd Γ cc own nL rm q) {b : Nat} {As : List Value} {A1 A2 A3 A4 A5 A6 A7 A8 A9 A10 A11 A12 A13 : Type} {Wd : A1 → A2 → A3 → A4 → A5 → A6 → A7 → A8 → A9 → A10 → A11 → A12 → A13 → va_W} {K : Int32 → A1 → A2 → A3 → A4 → A5 → A6 → A7 → A8 → A9 → A10 → A11 → A12 → A13 → Prop} {st0 : List Value} (hC : ctI_13 q y ccY nY frY loY (.ref b :: As) W2 Wd K) (L : clV own index y ccY nY (some .int) n) (q0 ci : Nat) {fs : List Value} {rc : vw_C} (he : W2[q0]? = some (b, .inr (ci, fs))) (hrc : jclasses[ci]? = some rc) (hcn : rc.1 = y.cls) (hfr : frY + 1 ≤ rm.frames) (hlo : 8 + (nY + 11) + loY ≤ rm.locals) (hcells : kc + 0 ≤ rm.cells) (hslots : ks + 0 ≤ rm.slots) (hAs : As.length = n) (hst : st0 = As.reverse ++ .ref b :: st) (hcat : (st.map fun v => v.category).sum ≤ 8) (hd : decode cc pc = .ok (.invokevirtual index, 3)) (k : ∀ (r : Int32) (m1 : A1) (m2 : A2) (m3 : A3) (m4 : A4) (m5 : A5) (m6 : A6) (m7 : A7) (m8 : A8) (m9 : A9) (m10 : A10) (m11 : A11) (m12 : A12) (m13 : A13), K r m1 m2 m3 m4 m5 m6 m7 m8 m9 m10 m11 m12 m13 → jw Γ nL kc ks (W1 ++ Wd m1 m2 m3 m4 m5 m6 m7 m8 m9 m10 m11 m12 m13) lv (.int r :: st) (pc + 3)) : jw Γ nL kc ks (W1 ++ W2) lv st0 pc :=
  j_fRI g hC L q0 ci he hrc hcn hfr hlo hcells hslots hAs hst hcat hd (fun r u h => k r u.1 u.2.1 u.2.2.1 u.2.2.2.1 u.2.2.2.2.1 u.2.2.2.2.2.1 u.2.2.2.2.2.2.1 u.2.2.2.2.2.2.2.1 u.2.2.2.2.2.2.2.2.1 u.2.2.2.2.2.2.2.2.2.1 u.2.2.2.2.2.2.2.2.2.2.1 u.2.2.2.2.2.2.2.2.2.2.2.1 u.2.2.2.2.2.2.2.2.2.2.2.2 h)
theorem j_fRI_14 (g : gd Γ cc own nL rm q) {b : Nat} {As : List Value} {A1 A2 A3 A4 A5 A6 A7 A8 A9 A10 A11 A12 A13 A14 : Type} {Wd : A1 → A2 → A3 → A4 → A5 → A6 → A7 → A8 → A9 → A10 → A11 → A12 → A13 → A14 → va_W} {K : Int32 → A1 → A2 → A3 → A4 → A5 → A6 → A7 → A8 → A9 → A10 → A11 → A12 → A13 → A14 → Prop} {st0 : List Value} (hC : ctI_14 q y ccY nY frY loY (.ref b :: As) W2 Wd K) (L : clV own index y ccY nY (some .int) n) (q0 ci : Nat) {fs : List Value} {rc : vw_C} (he : W2[q0]? = some (b, .inr (ci, fs))) (hrc : jclasses[ci]? = some rc) (hcn : rc.1 = y.cls) (hfr : frY + 1 ≤ rm.frames) (hlo : 8 + (nY + 11) + loY ≤ rm.locals) (hcells : kc + 0 ≤ rm.cells) (hslots : ks + 0 ≤ rm.slots) (hAs : As.length = n) (hst : st0 = As.reverse ++ .ref b :: st) (hcat : (st.map fun v => v.category).sum ≤ 8) (hd : decode cc pc = .ok (.invokevirtual index, 3)) (k : ∀ (r : Int32) (m1 : A1) (m2 : A2) (m3 : A3) (m4 : A4) (m5 : A5) (m6 : A6) (m7 : A7) (m8 : A8) (m9 : A9) (m10 : A10) (m11 : A11) (m12 : A12) (m13 : A13) (m14 : A14), K r m1 m2 m3 m4 m5 m6 m7 m8 m9 m10 m11 m12 m13 m14 → jw Γ nL kc ks (W1 ++ Wd m1 m2 m3 m4 m5 m6 m7 m8 m9 m10 m11 m12 m13 m14) lv (.int r :: st) (pc + 3)) : jw Γ nL kc ks (W1 ++ W2) lv st0 pc :=
  j_fRI g hC L q0 ci he hrc hcn hfr hlo hcells hslots hAs hst hcat hd (fun r u h => k r u.1 u.2.1 u.2.2.1 u.2.2.2.1 u.2.2.2.2.1 u.2.2.2.2.2.1 u.2.2.2.2.2.2.1 u.2.2.2.2.2.2.2.1 u.2.2.2.2.2.2.2.2.1 u.2.2.2.2.2.2.2.2.2.1 u.2.2.2.2.2.2.2.2.2.2.1 u.2.2.2.2.2.2.2.2.2.2.2.1 u.2.2.2.2.2.2.2.2.2.2.2.2.1 u.2.2.2.2.2.2.2.2.2.2.2.2.2 h)
theorem j_fRZ_2 (g : gd Γ cc own nL rm q) {b : Nat} {As : List Value} {A1 A2 : Type} {Wd : A1 → A2 → va_W} {K : Int32 → A1 → A2 → Prop} {st0 : List Value} (hC : ctZ_2 q y ccY nY frY loY (.ref b :: As) W2 Wd K) (L : clV own index y ccY nY (some .boolean) n) (q0 ci : Nat) {fs : List Value} {rc : vw_C} (he : W2[q0]? = some (b, .inr (ci, fs))) (hrc : jclasses[ci]? = some rc) (hcn : rc.1 = y.cls) (hfr : frY + 1 ≤ rm.frames) (hlo : 8 + (nY + 11) + loY ≤ rm.locals) (hcells : kc + 0 ≤ rm.cells) (hslots : ks + 0 ≤ rm.slots) (hAs : As.length = n) (hst : st0 = As.reverse ++ .ref b :: st) (hcat : (st.map fun v => v.category).sum ≤ 8) (hd : decode cc pc = .ok (.invokevirtual index, 3)) (k : ∀ (r : Int32) (m1 : A1) (m2 : A2), (r = 0 ∨ r = 1) → K r m1 m2 → jw Γ nL kc ks (W1 ++ Wd m1 m2) lv (.int r :: st) (pc + 3)) : jw Γ nL kc ks (W1 ++ W2) lv st0 pc :=
  j_fRZ g hC L q0 ci he hrc hcn hfr hlo hcells hslots hAs hst hcat hd (fun r u hz h => k r u.1 u.2 hz h)
theorem j_fRZ_3 (g : gd Γ cc own nL rm q) {b : Nat} {As : List Value} {A1 A2 A3 : Type} {Wd : A1 → A2 → A3 → va_W} {K : Int32 → A1 → A2 → A3 → Prop} {st0 : List Value} (hC : ctZ_3 q y ccY nY frY loY (.ref b :: As) W2 Wd K) (L : clV own index y ccY nY (some .boolean) n) (q0 ci : Nat) {fs : List Value} {rc : vw_C} (he : W2[q0]? = some (b, .inr (ci, fs))) (hrc : jclasses[ci]? = some rc) (hcn : rc.1 = y.cls) (hfr : frY + 1 ≤ rm.frames) (hlo : 8 + (nY + 11) + loY ≤ rm.locals) (hcells : kc + 0 ≤ rm.cells) (hslots : ks + 0 ≤ rm.slots) (hAs : As.length = n) (hst : st0 = As.reverse ++ .ref b :: st) (hcat : (st.map fun v => v.category).sum ≤ 8) (hd : decode cc pc = .ok (.invokevirtual index, 3)) (k : ∀ (r : Int32) (m1 : A1) (m2 : A2) (m3 : A3), (r = 0 ∨ r = 1) → K r m1 m2 m3 → jw Γ nL kc ks (W1 ++ Wd m1 m2 m3) lv (.int r :: st) (pc + 3)) : jw Γ nL kc ks (W1 ++ W2) lv st0 pc :=
  j_fRZ g hC L q0 ci he hrc hcn hfr hlo hcells hslots hAs hst hcat hd (fun r u hz h => k r u.1 u.2.1 u.2.2 hz h)
theorem j_fRZ_4 (g : gd Γ cc own nL rm q) {b : Nat} {As : List Value} {A1 A2 A3 A4 : Type} {Wd : A1 → A2 → A3 → A4 → va_W} {K : Int32 → A1 → A2 → A3 → A4 → Prop} {st0 : List Value} (hC : ctZ_4 q y ccY nY frY loY (.ref b :: As) W2 Wd K) (L : clV own index y ccY nY (some .boolean) n) (q0 ci : Nat) {fs : List Value} {rc : vw_C} (he : W2[q0]? = some (b, .inr (ci, fs))) (hrc : jclasses[ci]? = some rc) (hcn : rc.1 = y.cls) (hfr : frY + 1 ≤ rm.frames) (hlo : 8 + (nY + 11) + loY ≤ rm.locals) (hcells : kc + 0 ≤ rm.cells) (hslots : ks + 0 ≤ rm.slots) (hAs : As.length = n) (hst : st0 = As.reverse ++ .ref b :: st) (hcat : (st.map fun v => v.category).sum ≤ 8) (hd : decode cc pc = .ok (.invokevirtual index, 3)) (k : ∀ (r : Int32) (m1 : A1) (m2 : A2) (m3 : A3) (m4 : A4), (r = 0 ∨ r = 1) → K r m1 m2 m3 m4 → jw Γ nL kc ks (W1 ++ Wd m1 m2 m3 m4) lv (.int r :: st) (pc + 3)) : jw Γ nL kc ks (W1 ++ W2) lv st0 pc :=
  j_fRZ g hC L q0 ci he hrc hcn hfr hlo hcells hslots hAs hst hcat hd (fun r u hz h => k r u.1 u.2.1 u.2.2.1 u.2.2.2 hz h)
end JFN
def gS (Γ : GT) (b L : Nat) (xs : Nat → Int32) : Prop := match Γ with
  | (_, _, _, _, s, _, _, _, _, _, _, A, _) => va_X b L xs s s.heap ∧ b < s.heap.size ∧ ¬ A b
section JS
variable {Γ : GT} {cc : ByteArray} {own : String} {nL kc ks : Nat} {rm : Room} {q : Nat → ClassId} {ws : va_W} {lv : List (Nat × Value)} {st : List Value} {pc : Nat}
theorem j_slen (g : gd Γ cc own nL rm q) {b L : Nat} {xs : Nat → Int32} (h : gS Γ b L xs) (hd : decode cc pc = .ok (.arraylength, 1)) (k : jw Γ nL kc ks ws lv (.int (nI L) :: st) (pc + 1)) : jw Γ nL kc ks ws lv (.ref b :: st) pc := by
  obtain ⟨p, l, e, R, s, m, args, below, meth, c, D, A, Q⟩ := Γ
  obtain ⟨hx, hb, hml, hown, hts, hK, hA, hR⟩ := g
  intro H locs ls hP hD hS hl
  exact va_slen hx hb h.1 h.2.1 h.2.2 hS hd (k H locs ls hP hD hS hl)
theorem j_sld (g : gd Γ cc own nL rm q) {b L : Nat} {xs : Nat → Int32} (h : gS Γ b L xs) {i : Int32} (hin : vp_in i L) (hd : decode cc pc = .ok (.iaload, 1)) (k : jw Γ nL kc ks ws lv (.int (xs i.toNatClampNeg) :: st) (pc + 1)) : jw Γ nL kc ks ws lv (.int i :: .ref b :: st) pc := by
  obtain ⟨p, l, e, R, s, m, args, below, meth, c, D, A, Q⟩ := Γ
  obtain ⟨hx, hb, hml, hown, hts, hK, hA, hR⟩ := g
  intro H locs ls hP hD hS hl
  exact va_sld hx hb h.1 h.2.1 h.2.2 hS hin hd (k H locs ls hP hD hS hl)
end JS
abbrev lwN : Type := Int32 → (Nat → Int32) → (Nat → Nat) → (Nat → Int32) → (Nat → Int32) → (Nat → Int32) → (Nat → Int32) → (Nat → Int32) → (Nat → Int32) → (Nat → Int32) → (Nat → Int32) → (Nat → Int32) → (Nat → Nat → Int64) → (Nat → Nat → Int32) → (Nat → Int32) → (Nat → Int32) → Int32 → Int32 → Int32 → Int32 → Int32 → Int32 → (Nat → Int32) → (Nat → Int32) → (Nat → Int32) → (Nat → Int32) → (Nat → Int32) → (Nat → Int32) → (Nat → Int32) → (Nat → Int32) → Int32 → Int32 → Int32 → Int32 → (Nat → Int32) → (Nat → Int32) → (Nat → Int32) → Int32 → (Nat → Int32) → (Nat → Int32) → (Nat → Int32) → (Nat → Int32) → (Nat → Int32) → Prop
def lw_c0 (x1 x2 : Int32) (sz : Int32) (pr : Nat → Int32) (pm : Nat → Nat) (kv : Nat → Int32) (kn : Nat → Int32) (kr : Nat → Int32) (kt : Nat → Int32) (kb : Nat → Int32) (ks : Nat → Int32) (kj : Nat → Int32) (kw : Nat → Int32) (kg : Nat → Int32) (wd : Nat → Nat → Int64) (fw : Nat → Nat → Int32) (ad : Nat → Int32) (bk : Nat → Int32) (md : Int32) (cr : Int32) (ow : Int32) (hd : Int32) (mtd : Int32) (mnk : Int32) (mva : Nat → Int32) (mno : Nat → Int32) (mro : Nat → Int32) (mtu : Nat → Int32) (mbx : Nat → Int32) (mst : Nat → Int32) (mja : Nat → Int32) (mpr : Nat → Int32) (mcr : Int32) (mow : Int32) (mhd : Int32) (mmo : Int32) (mbk : Nat → Int32) (mca : Nat → Int32) (mfr : Nat → Int32) (mrs : Int32) (mrk : Nat → Int32) (mfe : Nat → Int32) (mus : Nat → Int32) (mgi : Nat → Int32) (maj : Nat → Int32) (N : lwN) : Prop := wp_X5_coin x1 x2 sz pm kv kn kr cr (fun (r1 : Int32) (sz' : Int32) (pm' : Nat → Nat) (kv' : Nat → Int32) (kn' : Nat → Int32) (kr' : Nat → Int32) => wp_X6_coin x1 x2 mtd mnk mva mro mcr (fun (r2 : Int32) (mtd' : Int32) (mnk' : Int32) (mva' : Nat → Int32) (mro' : Nat → Int32) => r1 = r2 ∧ N sz' pr pm' kv' kn' kr' kt kb ks kj kw kg wd fw ad bk md cr ow hd mtd' mnk' mva' mno mro' mtu mbx mst mja mpr mcr mow mhd mmo mbk mca mfr mrs mrk mfe mus mgi maj))
def lw_c1 (x1 x2 : Int32) (sz : Int32) (pr : Nat → Int32) (pm : Nat → Nat) (kv : Nat → Int32) (kn : Nat → Int32) (kr : Nat → Int32) (kt : Nat → Int32) (kb : Nat → Int32) (ks : Nat → Int32) (kj : Nat → Int32) (kw : Nat → Int32) (kg : Nat → Int32) (wd : Nat → Nat → Int64) (fw : Nat → Nat → Int32) (ad : Nat → Int32) (bk : Nat → Int32) (md : Int32) (cr : Int32) (ow : Int32) (hd : Int32) (mtd : Int32) (mnk : Int32) (mva : Nat → Int32) (mno : Nat → Int32) (mro : Nat → Int32) (mtu : Nat → Int32) (mbx : Nat → Int32) (mst : Nat → Int32) (mja : Nat → Int32) (mpr : Nat → Int32) (mcr : Int32) (mow : Int32) (mhd : Int32) (mmo : Int32) (mbk : Nat → Int32) (mca : Nat → Int32) (mfr : Nat → Int32) (mrs : Int32) (mrk : Nat → Int32) (mfe : Nat → Int32) (mus : Nat → Int32) (mgi : Nat → Int32) (maj : Nat → Int32) (N : lwN) : Prop := wp_X5_note x1 sz pm kv kn kr cr (fun (r1 : Int32) (sz' : Int32) (pm' : Nat → Nat) (kv' : Nat → Int32) (kn' : Nat → Int32) (kr' : Nat → Int32) => wp_X6_note x1 mtd mnk mva mno mcr (fun (r2 : Int32) (mtd' : Int32) (mnk' : Int32) (mva' : Nat → Int32) (mno' : Nat → Int32) => r1 = r2 ∧ N sz' pr pm' kv' kn' kr' kt kb ks kj kw kg wd fw ad bk md cr ow hd mtd' mnk' mva' mno' mro mtu mbx mst mja mpr mcr mow mhd mmo mbk mca mfr mrs mrk mfe mus mgi maj))
def lw_c2 (x1 x2 : Int32) (sz : Int32) (pr : Nat → Int32) (pm : Nat → Nat) (kv : Nat → Int32) (kn : Nat → Int32) (kr : Nat → Int32) (kt : Nat → Int32) (kb : Nat → Int32) (ks : Nat → Int32) (kj : Nat → Int32) (kw : Nat → Int32) (kg : Nat → Int32) (wd : Nat → Nat → Int64) (fw : Nat → Nat → Int32) (ad : Nat → Int32) (bk : Nat → Int32) (md : Int32) (cr : Int32) (ow : Int32) (hd : Int32) (mtd : Int32) (mnk : Int32) (mva : Nat → Int32) (mno : Nat → Int32) (mro : Nat → Int32) (mtu : Nat → Int32) (mbx : Nat → Int32) (mst : Nat → Int32) (mja : Nat → Int32) (mpr : Nat → Int32) (mcr : Int32) (mow : Int32) (mhd : Int32) (mmo : Int32) (mbk : Nat → Int32) (mca : Nat → Int32) (mfr : Nat → Int32) (mrs : Int32) (mrk : Nat → Int32) (mfe : Nat → Int32) (mus : Nat → Int32) (mgi : Nat → Int32) (maj : Nat → Int32) (N : lwN) : Prop := wp_X5_price x1 x2 pr cr (fun (r1 : Int32) (pr' : Nat → Int32) => wp_X6_price x1 x2 mtd mpr mcr (fun (r2 : Int32) (mtd' : Int32) (mpr' : Nat → Int32) => r1 = r2 ∧ N sz pr' pm kv kn kr kt kb ks kj kw kg wd fw ad bk md cr ow hd mtd' mnk mva mno mro mtu mbx mst mja mpr' mcr mow mhd mmo mbk mca mfr mrs mrk mfe mus mgi maj))
def lw_c3 (x1 x2 : Int32) (sz : Int32) (pr : Nat → Int32) (pm : Nat → Nat) (kv : Nat → Int32) (kn : Nat → Int32) (kr : Nat → Int32) (kt : Nat → Int32) (kb : Nat → Int32) (ks : Nat → Int32) (kj : Nat → Int32) (kw : Nat → Int32) (kg : Nat → Int32) (wd : Nat → Nat → Int64) (fw : Nat → Nat → Int32) (ad : Nat → Int32) (bk : Nat → Int32) (md : Int32) (cr : Int32) (ow : Int32) (hd : Int32) (mtd : Int32) (mnk : Int32) (mva : Nat → Int32) (mno : Nat → Int32) (mro : Nat → Int32) (mtu : Nat → Int32) (mbx : Nat → Int32) (mst : Nat → Int32) (mja : Nat → Int32) (mpr : Nat → Int32) (mcr : Int32) (mow : Int32) (mhd : Int32) (mmo : Int32) (mbk : Nat → Int32) (mca : Nat → Int32) (mfr : Nat → Int32) (mrs : Int32) (mrk : Nat → Int32) (mfe : Nat → Int32) (mus : Nat → Int32) (mgi : Nat → Int32) (maj : Nat → Int32) (N : lwN) : Prop := wp_X5_mode x1 md (fun (r1 : Int32) (md' : Int32) => wp_X6_mode x1 mtd mmo (fun (r2 : Int32) (mtd' : Int32) (mmo' : Int32) => r1 = r2 ∧ N sz pr pm kv kn kr kt kb ks kj kw kg wd fw ad bk md' cr ow hd mtd' mnk mva mno mro mtu mbx mst mja mpr mcr mow mhd mmo' mbk mca mfr mrs mrk mfe mus mgi maj))
def lw_c4 (x1 x2 : Int32) (sz : Int32) (pr : Nat → Int32) (pm : Nat → Nat) (kv : Nat → Int32) (kn : Nat → Int32) (kr : Nat → Int32) (kt : Nat → Int32) (kb : Nat → Int32) (ks : Nat → Int32) (kj : Nat → Int32) (kw : Nat → Int32) (kg : Nat → Int32) (wd : Nat → Nat → Int64) (fw : Nat → Nat → Int32) (ad : Nat → Int32) (bk : Nat → Int32) (md : Int32) (cr : Int32) (ow : Int32) (hd : Int32) (mtd : Int32) (mnk : Int32) (mva : Nat → Int32) (mno : Nat → Int32) (mro : Nat → Int32) (mtu : Nat → Int32) (mbx : Nat → Int32) (mst : Nat → Int32) (mja : Nat → Int32) (mpr : Nat → Int32) (mcr : Int32) (mow : Int32) (mhd : Int32) (mmo : Int32) (mbk : Nat → Int32) (mca : Nat → Int32) (mfr : Nat → Int32) (mrs : Int32) (mrk : Nat → Int32) (mfe : Nat → Int32) (mus : Nat → Int32) (mgi : Nat → Int32) (maj : Nat → Int32) (N : lwN) : Prop := wp_X5_fill x1 x2 sz kv kn kr kt bk (fun (r1 : Int32) (kt' : Nat → Int32) (bk' : Nat → Int32) => wp_X6_fill x1 x2 mtd mnk mva mno mro mtu mbk (fun (r2 : Int32) (mtd' : Int32) (mtu' : Nat → Int32) (mbk' : Nat → Int32) => r1 = r2 ∧ N sz pr pm kv kn kr kt' kb ks kj kw kg wd fw ad bk' md cr ow hd mtd' mnk mva mno mro mtu' mbx mst mja mpr mcr mow mhd mmo mbk' mca mfr mrs mrk mfe mus mgi maj))
def lw_c5 (x1 x2 : Int32) (sz : Int32) (pr : Nat → Int32) (pm : Nat → Nat) (kv : Nat → Int32) (kn : Nat → Int32) (kr : Nat → Int32) (kt : Nat → Int32) (kb : Nat → Int32) (ks : Nat → Int32) (kj : Nat → Int32) (kw : Nat → Int32) (kg : Nat → Int32) (wd : Nat → Nat → Int64) (fw : Nat → Nat → Int32) (ad : Nat → Int32) (bk : Nat → Int32) (md : Int32) (cr : Int32) (ow : Int32) (hd : Int32) (mtd : Int32) (mnk : Int32) (mva : Nat → Int32) (mno : Nat → Int32) (mro : Nat → Int32) (mtu : Nat → Int32) (mbx : Nat → Int32) (mst : Nat → Int32) (mja : Nat → Int32) (mpr : Nat → Int32) (mcr : Int32) (mow : Int32) (mhd : Int32) (mmo : Int32) (mbk : Nat → Int32) (mca : Nat → Int32) (mfr : Nat → Int32) (mrs : Int32) (mrk : Nat → Int32) (mfe : Nat → Int32) (mus : Nat → Int32) (mgi : Nat → Int32) (maj : Nat → Int32) (N : lwN) : Prop := wp_X5_stuck x1 x2 sz kn ks (fun (r1 : Int32) (ks' : Nat → Int32) => wp_X6_stuck x1 x2 mtd mnk mno mst (fun (r2 : Int32) (mtd' : Int32) (mst' : Nat → Int32) => r1 = r2 ∧ N sz pr pm kv kn kr kt kb ks' kj kw kg wd fw ad bk md cr ow hd mtd' mnk mva mno mro mtu mbx mst' mja mpr mcr mow mhd mmo mbk mca mfr mrs mrk mfe mus mgi maj))
def lw_c6 (x1 x2 : Int32) (sz : Int32) (pr : Nat → Int32) (pm : Nat → Nat) (kv : Nat → Int32) (kn : Nat → Int32) (kr : Nat → Int32) (kt : Nat → Int32) (kb : Nat → Int32) (ks : Nat → Int32) (kj : Nat → Int32) (kw : Nat → Int32) (kg : Nat → Int32) (wd : Nat → Nat → Int64) (fw : Nat → Nat → Int32) (ad : Nat → Int32) (bk : Nat → Int32) (md : Int32) (cr : Int32) (ow : Int32) (hd : Int32) (mtd : Int32) (mnk : Int32) (mva : Nat → Int32) (mno : Nat → Int32) (mro : Nat → Int32) (mtu : Nat → Int32) (mbx : Nat → Int32) (mst : Nat → Int32) (mja : Nat → Int32) (mpr : Nat → Int32) (mcr : Int32) (mow : Int32) (mhd : Int32) (mmo : Int32) (mbk : Nat → Int32) (mca : Nat → Int32) (mfr : Nat → Int32) (mrs : Int32) (mrk : Nat → Int32) (mfe : Nat → Int32) (mus : Nat → Int32) (mgi : Nat → Int32) (maj : Nat → Int32) (N : lwN) : Prop := wp_X5_jam x1 x2 sz kn kj (fun (r1 : Int32) (kj' : Nat → Int32) => wp_X6_jam x1 x2 mtd mnk mno mja (fun (r2 : Int32) (mtd' : Int32) (mja' : Nat → Int32) => r1 = r2 ∧ N sz pr pm kv kn kr kt kb ks kj' kw kg wd fw ad bk md cr ow hd mtd' mnk mva mno mro mtu mbx mst mja' mpr mcr mow mhd mmo mbk mca mfr mrs mrk mfe mus mgi maj))
def lw_c7 (x1 x2 : Int32) (sz : Int32) (pr : Nat → Int32) (pm : Nat → Nat) (kv : Nat → Int32) (kn : Nat → Int32) (kr : Nat → Int32) (kt : Nat → Int32) (kb : Nat → Int32) (ks : Nat → Int32) (kj : Nat → Int32) (kw : Nat → Int32) (kg : Nat → Int32) (wd : Nat → Nat → Int64) (fw : Nat → Nat → Int32) (ad : Nat → Int32) (bk : Nat → Int32) (md : Int32) (cr : Int32) (ow : Int32) (hd : Int32) (mtd : Int32) (mnk : Int32) (mva : Nat → Int32) (mno : Nat → Int32) (mro : Nat → Int32) (mtu : Nat → Int32) (mbx : Nat → Int32) (mst : Nat → Int32) (mja : Nat → Int32) (mpr : Nat → Int32) (mcr : Int32) (mow : Int32) (mhd : Int32) (mmo : Int32) (mbk : Nat → Int32) (mca : Nat → Int32) (mfr : Nat → Int32) (mrs : Int32) (mrk : Nat → Int32) (mfe : Nat → Int32) (mus : Nat → Int32) (mgi : Nat → Int32) (maj : Nat → Int32) (N : lwN) : Prop := wp_X5_put x1 sz pr kv kn kr kt kb ks wd bk cr hd (fun (r1 : Int32) (kt' : Nat → Int32) (kb' : Nat → Int32) (wd' : Nat → Nat → Int64) (bk' : Nat → Int32) (cr' : Int32) (hd' : Int32) => wp_X6_put x1 mtd mnk mva mno mro mtu mbx mst mpr mcr mhd mbk mca mfr (fun (r2 : Int32) (mtd' : Int32) (mtu' : Nat → Int32) (mbx' : Nat → Int32) (mcr' : Int32) (mhd' : Int32) (mbk' : Nat → Int32) (mca' : Nat → Int32) (mfr' : Nat → Int32) => r1 = r2 ∧ N sz pr pm kv kn kr kt' kb' ks kj kw kg wd' fw ad bk' md cr' ow hd' mtd' mnk mva mno mro mtu' mbx' mst mja mpr mcr' mow mhd' mmo mbk' mca' mfr' mrs mrk mfe mus mgi maj))
def lw_c8 (x1 x2 : Int32) (sz : Int32) (pr : Nat → Int32) (pm : Nat → Nat) (kv : Nat → Int32) (kn : Nat → Int32) (kr : Nat → Int32) (kt : Nat → Int32) (kb : Nat → Int32) (ks : Nat → Int32) (kj : Nat → Int32) (kw : Nat → Int32) (kg : Nat → Int32) (wd : Nat → Nat → Int64) (fw : Nat → Nat → Int32) (ad : Nat → Int32) (bk : Nat → Int32) (md : Int32) (cr : Int32) (ow : Int32) (hd : Int32) (mtd : Int32) (mnk : Int32) (mva : Nat → Int32) (mno : Nat → Int32) (mro : Nat → Int32) (mtu : Nat → Int32) (mbx : Nat → Int32) (mst : Nat → Int32) (mja : Nat → Int32) (mpr : Nat → Int32) (mcr : Int32) (mow : Int32) (mhd : Int32) (mmo : Int32) (mbk : Nat → Int32) (mca : Nat → Int32) (mfr : Nat → Int32) (mrs : Int32) (mrk : Nat → Int32) (mfe : Nat → Int32) (mus : Nat → Int32) (mgi : Nat → Int32) (maj : Nat → Int32) (N : lwN) : Prop := wp_X5_takes x1 sz pr kv kn kr kt ks wd cr hd (fun (r1 : Int32) (wd' : Nat → Nat → Int64) => wp_X6_takes x1 mtd mnk mva mno mro mtu mst mpr mcr mhd mca mfr (fun (r2 : Int32) (mtd' : Int32) (mtu' : Nat → Int32) (mca' : Nat → Int32) (mfr' : Nat → Int32) => r1 = r2 ∧ N sz pr pm kv kn kr kt kb ks kj kw kg wd' fw ad bk md cr ow hd mtd' mnk mva mno mro mtu' mbx mst mja mpr mcr mow mhd mmo mbk mca' mfr' mrs mrk mfe mus mgi maj))
def lw_c9 (x1 x2 : Int32) (sz : Int32) (pr : Nat → Int32) (pm : Nat → Nat) (kv : Nat → Int32) (kn : Nat → Int32) (kr : Nat → Int32) (kt : Nat → Int32) (kb : Nat → Int32) (ks : Nat → Int32) (kj : Nat → Int32) (kw : Nat → Int32) (kg : Nat → Int32) (wd : Nat → Nat → Int64) (fw : Nat → Nat → Int32) (ad : Nat → Int32) (bk : Nat → Int32) (md : Int32) (cr : Int32) (ow : Int32) (hd : Int32) (mtd : Int32) (mnk : Int32) (mva : Nat → Int32) (mno : Nat → Int32) (mro : Nat → Int32) (mtu : Nat → Int32) (mbx : Nat → Int32) (mst : Nat → Int32) (mja : Nat → Int32) (mpr : Nat → Int32) (mcr : Int32) (mow : Int32) (mhd : Int32) (mmo : Int32) (mbk : Nat → Int32) (mca : Nat → Int32) (mfr : Nat → Int32) (mrs : Int32) (mrk : Nat → Int32) (mfe : Nat → Int32) (mus : Nat → Int32) (mgi : Nat → Int32) (maj : Nat → Int32) (N : lwN) : Prop := wp_X5_buy x1 sz pr pm kv kn kt kb ks kj kw kg wd fw bk md cr ow hd (fun (r1 : Int32) (kt' : Nat → Int32) (kb' : Nat → Int32) (ks' : Nat → Int32) (kj' : Nat → Int32) (kw' : Nat → Int32) (kg' : Nat → Int32) (wd' : Nat → Nat → Int64) (fw' : Nat → Nat → Int32) (bk' : Nat → Int32) (cr' : Int32) (ow' : Int32) (hd' : Int32) => wp_X6_buy x1 mtd mnk mva mno mtu mbx mst mja mpr mcr mow mhd mmo mbk mrs mrk mfe mus mgi (fun (r2 : Int32) (mtd' : Int32) (mtu' : Nat → Int32) (mbx' : Nat → Int32) (mst' : Nat → Int32) (mja' : Nat → Int32) (mcr' : Int32) (mow' : Int32) (mhd' : Int32) (mbk' : Nat → Int32) (mrs' : Int32) (mrk' : Nat → Int32) (mfe' : Nat → Int32) (mus' : Nat → Int32) (mgi' : Nat → Int32) => r1 = r2 ∧ N sz pr pm kv kn kr kt' kb' ks' kj' kw' kg' wd' fw' ad bk' md cr' ow' hd' mtd' mnk mva mno mro mtu' mbx' mst' mja' mpr mcr' mow' mhd' mmo mbk' mca mfr mrs' mrk' mfe' mus' mgi' maj))
def lw_c10 (x1 x2 : Int32) (sz : Int32) (pr : Nat → Int32) (pm : Nat → Nat) (kv : Nat → Int32) (kn : Nat → Int32) (kr : Nat → Int32) (kt : Nat → Int32) (kb : Nat → Int32) (ks : Nat → Int32) (kj : Nat → Int32) (kw : Nat → Int32) (kg : Nat → Int32) (wd : Nat → Nat → Int64) (fw : Nat → Nat → Int32) (ad : Nat → Int32) (bk : Nat → Int32) (md : Int32) (cr : Int32) (ow : Int32) (hd : Int32) (mtd : Int32) (mnk : Int32) (mva : Nat → Int32) (mno : Nat → Int32) (mro : Nat → Int32) (mtu : Nat → Int32) (mbx : Nat → Int32) (mst : Nat → Int32) (mja : Nat → Int32) (mpr : Nat → Int32) (mcr : Int32) (mow : Int32) (mhd : Int32) (mmo : Int32) (mbk : Nat → Int32) (mca : Nat → Int32) (mfr : Nat → Int32) (mrs : Int32) (mrk : Nat → Int32) (mfe : Nat → Int32) (mus : Nat → Int32) (mgi : Nat → Int32) (maj : Nat → Int32) (N : lwN) : Prop := wp_X5_refund sz pm kv kn kt ks kj kw kg wd fw bk md cr ow hd (fun (r1 : Int32) (kt' : Nat → Int32) (ks' : Nat → Int32) (kj' : Nat → Int32) (kw' : Nat → Int32) (kg' : Nat → Int32) (wd' : Nat → Nat → Int64) (fw' : Nat → Nat → Int32) (bk' : Nat → Int32) (cr' : Int32) (ow' : Int32) (hd' : Int32) => wp_X6_refund mtd mnk mva mno mtu mst mja mcr mow mhd mmo mbk mrs mrk mfe mus mgi (fun (r2 : Int32) (mtd' : Int32) (mtu' : Nat → Int32) (mst' : Nat → Int32) (mja' : Nat → Int32) (mcr' : Int32) (mow' : Int32) (mhd' : Int32) (mbk' : Nat → Int32) (mrs' : Int32) (mrk' : Nat → Int32) (mfe' : Nat → Int32) (mus' : Nat → Int32) (mgi' : Nat → Int32) => r1 = r2 ∧ N sz pr pm kv kn kr kt' kb ks' kj' kw' kg' wd' fw' ad bk' md cr' ow' hd' mtd' mnk mva mno mro mtu' mbx mst' mja' mpr mcr' mow' mhd' mmo mbk' mca mfr mrs' mrk' mfe' mus' mgi' maj))
def lw_c11 (x1 x2 : Int32) (sz : Int32) (pr : Nat → Int32) (pm : Nat → Nat) (kv : Nat → Int32) (kn : Nat → Int32) (kr : Nat → Int32) (kt : Nat → Int32) (kb : Nat → Int32) (ks : Nat → Int32) (kj : Nat → Int32) (kw : Nat → Int32) (kg : Nat → Int32) (wd : Nat → Nat → Int64) (fw : Nat → Nat → Int32) (ad : Nat → Int32) (bk : Nat → Int32) (md : Int32) (cr : Int32) (ow : Int32) (hd : Int32) (mtd : Int32) (mnk : Int32) (mva : Nat → Int32) (mno : Nat → Int32) (mro : Nat → Int32) (mtu : Nat → Int32) (mbx : Nat → Int32) (mst : Nat → Int32) (mja : Nat → Int32) (mpr : Nat → Int32) (mcr : Int32) (mow : Int32) (mhd : Int32) (mmo : Int32) (mbk : Nat → Int32) (mca : Nat → Int32) (mfr : Nat → Int32) (mrs : Int32) (mrk : Nat → Int32) (mfe : Nat → Int32) (mus : Nat → Int32) (mgi : Nat → Int32) (maj : Nat → Int32) (N : lwN) : Prop := wp_X5_pay sz pm kv kn kt ks kj kw kg wd fw bk md ow (fun (r1 : Int32) (kt' : Nat → Int32) (ks' : Nat → Int32) (kj' : Nat → Int32) (kw' : Nat → Int32) (kg' : Nat → Int32) (wd' : Nat → Nat → Int64) (fw' : Nat → Nat → Int32) (bk' : Nat → Int32) (ow' : Int32) => wp_X6_pay mtd mnk mva mno mtu mst mja mow mmo mbk mca mfr mrs mrk mfe mus mgi (fun (r2 : Int32) (mtd' : Int32) (mtu' : Nat → Int32) (mst' : Nat → Int32) (mja' : Nat → Int32) (mow' : Int32) (mbk' : Nat → Int32) (mca' : Nat → Int32) (mfr' : Nat → Int32) (mrs' : Int32) (mrk' : Nat → Int32) (mfe' : Nat → Int32) (mus' : Nat → Int32) (mgi' : Nat → Int32) => r1 = r2 ∧ N sz pr pm kv kn kr kt' kb ks' kj' kw' kg' wd' fw' ad bk' md cr ow' hd mtd' mnk mva mno mro mtu' mbx mst' mja' mpr mcr mow' mhd mmo mbk' mca' mfr' mrs' mrk' mfe' mus' mgi' maj))
def lw_c12 (x1 x2 : Int32) (sz : Int32) (pr : Nat → Int32) (pm : Nat → Nat) (kv : Nat → Int32) (kn : Nat → Int32) (kr : Nat → Int32) (kt : Nat → Int32) (kb : Nat → Int32) (ks : Nat → Int32) (kj : Nat → Int32) (kw : Nat → Int32) (kg : Nat → Int32) (wd : Nat → Nat → Int64) (fw : Nat → Nat → Int32) (ad : Nat → Int32) (bk : Nat → Int32) (md : Int32) (cr : Int32) (ow : Int32) (hd : Int32) (mtd : Int32) (mnk : Int32) (mva : Nat → Int32) (mno : Nat → Int32) (mro : Nat → Int32) (mtu : Nat → Int32) (mbx : Nat → Int32) (mst : Nat → Int32) (mja : Nat → Int32) (mpr : Nat → Int32) (mcr : Int32) (mow : Int32) (mhd : Int32) (mmo : Int32) (mbk : Nat → Int32) (mca : Nat → Int32) (mfr : Nat → Int32) (mrs : Int32) (mrk : Nat → Int32) (mfe : Nat → Int32) (mus : Nat → Int32) (mgi : Nat → Int32) (maj : Nat → Int32) (N : lwN) : Prop := wp_X5_gave x1 sz kg (fun (r1 : Int32)  => wp_X6_gave x1 mtd mnk mgi (fun (r2 : Int32) (mtd' : Int32) => r1 = r2 ∧ N sz pr pm kv kn kr kt kb ks kj kw kg wd fw ad bk md cr ow hd mtd' mnk mva mno mro mtu mbx mst mja mpr mcr mow mhd mmo mbk mca mfr mrs mrk mfe mus mgi maj))
def lw_c13 (x1 x2 : Int32) (sz : Int32) (pr : Nat → Int32) (pm : Nat → Nat) (kv : Nat → Int32) (kn : Nat → Int32) (kr : Nat → Int32) (kt : Nat → Int32) (kb : Nat → Int32) (ks : Nat → Int32) (kj : Nat → Int32) (kw : Nat → Int32) (kg : Nat → Int32) (wd : Nat → Nat → Int64) (fw : Nat → Nat → Int32) (ad : Nat → Int32) (bk : Nat → Int32) (md : Int32) (cr : Int32) (ow : Int32) (hd : Int32) (mtd : Int32) (mnk : Int32) (mva : Nat → Int32) (mno : Nat → Int32) (mro : Nat → Int32) (mtu : Nat → Int32) (mbx : Nat → Int32) (mst : Nat → Int32) (mja : Nat → Int32) (mpr : Nat → Int32) (mcr : Int32) (mow : Int32) (mhd : Int32) (mmo : Int32) (mbk : Nat → Int32) (mca : Nat → Int32) (mfr : Nat → Int32) (mrs : Int32) (mrk : Nat → Int32) (mfe : Nat → Int32) (mus : Nat → Int32) (mgi : Nat → Int32) (maj : Nat → Int32) (N : lwN) : Prop := wp_X5_way x1 x2 sz pm kv kn kt ks kw wd fw md (fun (r1 : Int32) (kw' : Nat → Int32) (wd' : Nat → Nat → Int64) (fw' : Nat → Nat → Int32) => wp_X6_way x1 x2 mtd mnk mva mno mtu mst mmo mrs mrk mfe mus (fun (r2 : Int32) (mtd' : Int32) (mrs' : Int32) (mrk' : Nat → Int32) (mfe' : Nat → Int32) (mus' : Nat → Int32) => r1 = r2 ∧ N sz pr pm kv kn kr kt kb ks kj kw' kg wd' fw' ad bk md cr ow hd mtd' mnk mva mno mro mtu mbx mst mja mpr mcr mow mhd mmo mbk mca mfr mrs' mrk' mfe' mus' mgi maj))
def lw_c14 (x1 x2 : Int32) (sz : Int32) (pr : Nat → Int32) (pm : Nat → Nat) (kv : Nat → Int32) (kn : Nat → Int32) (kr : Nat → Int32) (kt : Nat → Int32) (kb : Nat → Int32) (ks : Nat → Int32) (kj : Nat → Int32) (kw : Nat → Int32) (kg : Nat → Int32) (wd : Nat → Nat → Int64) (fw : Nat → Nat → Int32) (ad : Nat → Int32) (bk : Nat → Int32) (md : Int32) (cr : Int32) (ow : Int32) (hd : Int32) (mtd : Int32) (mnk : Int32) (mva : Nat → Int32) (mno : Nat → Int32) (mro : Nat → Int32) (mtu : Nat → Int32) (mbx : Nat → Int32) (mst : Nat → Int32) (mja : Nat → Int32) (mpr : Nat → Int32) (mcr : Int32) (mow : Int32) (mhd : Int32) (mmo : Int32) (mbk : Nat → Int32) (mca : Nat → Int32) (mfr : Nat → Int32) (mrs : Int32) (mrk : Nat → Int32) (mfe : Nat → Int32) (mus : Nat → Int32) (mgi : Nat → Int32) (maj : Nat → Int32) (N : lwN) : Prop := wp_X5_coins x1 sz pm kv kn kt ks kw wd fw md (fun (r1 : Int32) (kw' : Nat → Int32) (wd' : Nat → Nat → Int64) (fw' : Nat → Nat → Int32) => wp_X6_coins x1 mtd mnk mva mno mtu mst mmo mrs mrk mfe mus (fun (r2 : Int32) (mtd' : Int32) (mrs' : Int32) (mrk' : Nat → Int32) (mfe' : Nat → Int32) (mus' : Nat → Int32) => r1 = r2 ∧ N sz pr pm kv kn kr kt kb ks kj kw' kg wd' fw' ad bk md cr ow hd mtd' mnk mva mno mro mtu mbx mst mja mpr mcr mow mhd mmo mbk mca mfr mrs' mrk' mfe' mus' mgi maj))
def lw_c15 (x1 x2 : Int32) (sz : Int32) (pr : Nat → Int32) (pm : Nat → Nat) (kv : Nat → Int32) (kn : Nat → Int32) (kr : Nat → Int32) (kt : Nat → Int32) (kb : Nat → Int32) (ks : Nat → Int32) (kj : Nat → Int32) (kw : Nat → Int32) (kg : Nat → Int32) (wd : Nat → Nat → Int64) (fw : Nat → Nat → Int32) (ad : Nat → Int32) (bk : Nat → Int32) (md : Int32) (cr : Int32) (ow : Int32) (hd : Int32) (mtd : Int32) (mnk : Int32) (mva : Nat → Int32) (mno : Nat → Int32) (mro : Nat → Int32) (mtu : Nat → Int32) (mbx : Nat → Int32) (mst : Nat → Int32) (mja : Nat → Int32) (mpr : Nat → Int32) (mcr : Int32) (mow : Int32) (mhd : Int32) (mmo : Int32) (mbk : Nat → Int32) (mca : Nat → Int32) (mfr : Nat → Int32) (mrs : Int32) (mrk : Nat → Int32) (mfe : Nat → Int32) (mus : Nat → Int32) (mgi : Nat → Int32) (maj : Nat → Int32) (N : lwN) : Prop := wp_X5_givable x1 sz kv kn kt ks wd (fun (r1 : Int32) (wd' : Nat → Nat → Int64) => wp_X6_givable x1 mtd mnk mva mno mtu mst mca mfr (fun (r2 : Int32) (mtd' : Int32) (mca' : Nat → Int32) (mfr' : Nat → Int32) => r1 = r2 ∧ N sz pr pm kv kn kr kt kb ks kj kw kg wd' fw ad bk md cr ow hd mtd' mnk mva mno mro mtu mbx mst mja mpr mcr mow mhd mmo mbk mca' mfr' mrs mrk mfe mus mgi maj))
def lw_c16 (x1 x2 : Int32) (sz : Int32) (pr : Nat → Int32) (pm : Nat → Nat) (kv : Nat → Int32) (kn : Nat → Int32) (kr : Nat → Int32) (kt : Nat → Int32) (kb : Nat → Int32) (ks : Nat → Int32) (kj : Nat → Int32) (kw : Nat → Int32) (kg : Nat → Int32) (wd : Nat → Nat → Int64) (fw : Nat → Nat → Int32) (ad : Nat → Int32) (bk : Nat → Int32) (md : Int32) (cr : Int32) (ow : Int32) (hd : Int32) (mtd : Int32) (mnk : Int32) (mva : Nat → Int32) (mno : Nat → Int32) (mro : Nat → Int32) (mtu : Nat → Int32) (mbx : Nat → Int32) (mst : Nat → Int32) (mja : Nat → Int32) (mpr : Nat → Int32) (mcr : Int32) (mow : Int32) (mhd : Int32) (mmo : Int32) (mbk : Nat → Int32) (mca : Nat → Int32) (mfr : Nat → Int32) (mrs : Int32) (mrk : Nat → Int32) (mfe : Nat → Int32) (mus : Nat → Int32) (mgi : Nat → Int32) (maj : Nat → Int32) (N : lwN) : Prop := wp_X5_light sz pr kv kn kr kt ks wd ad (fun (r1 : Int32) (wd' : Nat → Nat → Int64) (ad' : Nat → Int32) => wp_X6_light mtd mnk mva mno mro mtu mst mpr mca mfr (fun (r2 : Int32) (mtd' : Int32) (mtu' : Nat → Int32) (mca' : Nat → Int32) (mfr' : Nat → Int32) => r1 = r2 ∧ N sz pr pm kv kn kr kt kb ks kj kw kg wd' fw ad' bk md cr ow hd mtd' mnk mva mno mro mtu' mbx mst mja mpr mcr mow mhd mmo mbk mca' mfr' mrs mrk mfe mus mgi maj))
def lw_c17 (x1 x2 : Int32) (sz : Int32) (pr : Nat → Int32) (pm : Nat → Nat) (kv : Nat → Int32) (kn : Nat → Int32) (kr : Nat → Int32) (kt : Nat → Int32) (kb : Nat → Int32) (ks : Nat → Int32) (kj : Nat → Int32) (kw : Nat → Int32) (kg : Nat → Int32) (wd : Nat → Nat → Int64) (fw : Nat → Nat → Int32) (ad : Nat → Int32) (bk : Nat → Int32) (md : Int32) (cr : Int32) (ow : Int32) (hd : Int32) (mtd : Int32) (mnk : Int32) (mva : Nat → Int32) (mno : Nat → Int32) (mro : Nat → Int32) (mtu : Nat → Int32) (mbx : Nat → Int32) (mst : Nat → Int32) (mja : Nat → Int32) (mpr : Nat → Int32) (mcr : Int32) (mow : Int32) (mhd : Int32) (mmo : Int32) (mbk : Nat → Int32) (mca : Nat → Int32) (mfr : Nat → Int32) (mrs : Int32) (mrk : Nat → Int32) (mfe : Nat → Int32) (mus : Nat → Int32) (mgi : Nat → Int32) (maj : Nat → Int32) (N : lwN) : Prop := wp_X5_need x1 sz pr kv kn kr kt ks wd ad (fun (r1 : Int32) (wd' : Nat → Nat → Int64) (ad' : Nat → Int32) => wp_X6_need x1 mtd mnk mva mno mro mtu mst mpr mca mfr maj (fun (r2 : Int32) (mtd' : Int32) (mtu' : Nat → Int32) (mca' : Nat → Int32) (mfr' : Nat → Int32) (maj' : Nat → Int32) => r1 = r2 ∧ N sz pr pm kv kn kr kt kb ks kj kw kg wd' fw ad' bk md cr ow hd mtd' mnk mva mno mro mtu' mbx mst mja mpr mcr mow mhd mmo mbk mca' mfr' mrs mrk mfe mus mgi maj'))
def lw_c18 (x1 x2 : Int32) (sz : Int32) (pr : Nat → Int32) (pm : Nat → Nat) (kv : Nat → Int32) (kn : Nat → Int32) (kr : Nat → Int32) (kt : Nat → Int32) (kb : Nat → Int32) (ks : Nat → Int32) (kj : Nat → Int32) (kw : Nat → Int32) (kg : Nat → Int32) (wd : Nat → Nat → Int64) (fw : Nat → Nat → Int32) (ad : Nat → Int32) (bk : Nat → Int32) (md : Int32) (cr : Int32) (ow : Int32) (hd : Int32) (mtd : Int32) (mnk : Int32) (mva : Nat → Int32) (mno : Nat → Int32) (mro : Nat → Int32) (mtu : Nat → Int32) (mbx : Nat → Int32) (mst : Nat → Int32) (mja : Nat → Int32) (mpr : Nat → Int32) (mcr : Int32) (mow : Int32) (mhd : Int32) (mmo : Int32) (mbk : Nat → Int32) (mca : Nat → Int32) (mfr : Nat → Int32) (mrs : Int32) (mrk : Nat → Int32) (mfe : Nat → Int32) (mus : Nat → Int32) (mgi : Nat → Int32) (maj : Nat → Int32) (N : lwN) : Prop := wp_X5_look x1 sz kv kt kb bk md cr ow hd (fun (r1 : Int32)  => wp_X6_look x1 mtd mnk mva mtu mbx mcr mow mhd mmo mbk (fun (r2 : Int32) (mtd' : Int32) => r1 = r2 ∧ N sz pr pm kv kn kr kt kb ks kj kw kg wd fw ad bk md cr ow hd mtd' mnk mva mno mro mtu mbx mst mja mpr mcr mow mhd mmo mbk mca mfr mrs mrk mfe mus mgi maj))
def lw_c19 (x1 x2 : Int32) (sz : Int32) (pr : Nat → Int32) (pm : Nat → Nat) (kv : Nat → Int32) (kn : Nat → Int32) (kr : Nat → Int32) (kt : Nat → Int32) (kb : Nat → Int32) (ks : Nat → Int32) (kj : Nat → Int32) (kw : Nat → Int32) (kg : Nat → Int32) (wd : Nat → Nat → Int64) (fw : Nat → Nat → Int32) (ad : Nat → Int32) (bk : Nat → Int32) (md : Int32) (cr : Int32) (ow : Int32) (hd : Int32) (mtd : Int32) (mnk : Int32) (mva : Nat → Int32) (mno : Nat → Int32) (mro : Nat → Int32) (mtu : Nat → Int32) (mbx : Nat → Int32) (mst : Nat → Int32) (mja : Nat → Int32) (mpr : Nat → Int32) (mcr : Int32) (mow : Int32) (mhd : Int32) (mmo : Int32) (mbk : Nat → Int32) (mca : Nat → Int32) (mfr : Nat → Int32) (mrs : Int32) (mrk : Nat → Int32) (mfe : Nat → Int32) (mus : Nat → Int32) (mgi : Nat → Int32) (maj : Nat → Int32) (N : lwN) : Prop := wp_X5_kind x1 x2 sz kv kn kr kt kb ks kj (fun (r1 : Int32)  => wp_X6_kind x1 x2 mtd mnk mva mno mro mtu mbx mst mja (fun (r2 : Int32) (mtd' : Int32) => r1 = r2 ∧ N sz pr pm kv kn kr kt kb ks kj kw kg wd fw ad bk md cr ow hd mtd' mnk mva mno mro mtu mbx mst mja mpr mcr mow mhd mmo mbk mca mfr mrs mrk mfe mus mgi maj))
def lw_c20 (x1 x2 : Int32) (sz : Int32) (pr : Nat → Int32) (pm : Nat → Nat) (kv : Nat → Int32) (kn : Nat → Int32) (kr : Nat → Int32) (kt : Nat → Int32) (kb : Nat → Int32) (ks : Nat → Int32) (kj : Nat → Int32) (kw : Nat → Int32) (kg : Nat → Int32) (wd : Nat → Nat → Int64) (fw : Nat → Nat → Int32) (ad : Nat → Int32) (bk : Nat → Int32) (md : Int32) (cr : Int32) (ow : Int32) (hd : Int32) (mtd : Int32) (mnk : Int32) (mva : Nat → Int32) (mno : Nat → Int32) (mro : Nat → Int32) (mtu : Nat → Int32) (mbx : Nat → Int32) (mst : Nat → Int32) (mja : Nat → Int32) (mpr : Nat → Int32) (mcr : Int32) (mow : Int32) (mhd : Int32) (mmo : Int32) (mbk : Nat → Int32) (mca : Nat → Int32) (mfr : Nat → Int32) (mrs : Int32) (mrk : Nat → Int32) (mfe : Nat → Int32) (mus : Nat → Int32) (mgi : Nat → Int32) (maj : Nat → Int32) (N : lwN) : Prop := wp_X5_priced x1 pr (fun (r1 : Int32)  => wp_X6_priced x1 mtd mpr (fun (r2 : Int32) (mtd' : Int32) => r1 = r2 ∧ N sz pr pm kv kn kr kt kb ks kj kw kg wd fw ad bk md cr ow hd mtd' mnk mva mno mro mtu mbx mst mja mpr mcr mow mhd mmo mbk mca mfr mrs mrk mfe mus mgi maj))
def lw_c21 (x1 x2 : Int32) (sz : Int32) (pr : Nat → Int32) (pm : Nat → Nat) (kv : Nat → Int32) (kn : Nat → Int32) (kr : Nat → Int32) (kt : Nat → Int32) (kb : Nat → Int32) (ks : Nat → Int32) (kj : Nat → Int32) (kw : Nat → Int32) (kg : Nat → Int32) (wd : Nat → Nat → Int64) (fw : Nat → Nat → Int32) (ad : Nat → Int32) (bk : Nat → Int32) (md : Int32) (cr : Int32) (ow : Int32) (hd : Int32) (mtd : Int32) (mnk : Int32) (mva : Nat → Int32) (mno : Nat → Int32) (mro : Nat → Int32) (mtu : Nat → Int32) (mbx : Nat → Int32) (mst : Nat → Int32) (mja : Nat → Int32) (mpr : Nat → Int32) (mcr : Int32) (mow : Int32) (mhd : Int32) (mmo : Int32) (mbk : Nat → Int32) (mca : Nat → Int32) (mfr : Nat → Int32) (mrs : Int32) (mrk : Nat → Int32) (mfe : Nat → Int32) (mus : Nat → Int32) (mgi : Nat → Int32) (maj : Nat → Int32) (N : lwN) : Prop := wp_X5_empty sz kv kb bk (fun (r1 : Int32) (kb' : Nat → Int32) (bk' : Nat → Int32) => wp_X6_empty mtd mnk mva mbx mbk (fun (r2 : Int32) (mtd' : Int32) (mbx' : Nat → Int32) (mbk' : Nat → Int32) => r1 = r2 ∧ N sz pr pm kv kn kr kt kb' ks kj kw kg wd fw ad bk' md cr ow hd mtd' mnk mva mno mro mtu mbx' mst mja mpr mcr mow mhd mmo mbk' mca mfr mrs mrk mfe mus mgi maj))
def lw_c22 (x1 x2 : Int32) (sz : Int32) (pr : Nat → Int32) (pm : Nat → Nat) (kv : Nat → Int32) (kn : Nat → Int32) (kr : Nat → Int32) (kt : Nat → Int32) (kb : Nat → Int32) (ks : Nat → Int32) (kj : Nat → Int32) (kw : Nat → Int32) (kg : Nat → Int32) (wd : Nat → Nat → Int64) (fw : Nat → Nat → Int32) (ad : Nat → Int32) (bk : Nat → Int32) (md : Int32) (cr : Int32) (ow : Int32) (hd : Int32) (mtd : Int32) (mnk : Int32) (mva : Nat → Int32) (mno : Nat → Int32) (mro : Nat → Int32) (mtu : Nat → Int32) (mbx : Nat → Int32) (mst : Nat → Int32) (mja : Nat → Int32) (mpr : Nat → Int32) (mcr : Int32) (mow : Int32) (mhd : Int32) (mmo : Int32) (mbk : Nat → Int32) (mca : Nat → Int32) (mfr : Nat → Int32) (mrs : Int32) (mrk : Nat → Int32) (mfe : Nat → Int32) (mus : Nat → Int32) (mgi : Nat → Int32) (maj : Nat → Int32) (N : lwN) : Prop := wp_X5_drain x1 x2 sz kv kn kt bk cr (fun (r1 : Int32) (kt' : Nat → Int32) (bk' : Nat → Int32) => wp_X6_drain x1 x2 mtd mnk mva mno mtu mcr mbk (fun (r2 : Int32) (mtd' : Int32) (mtu' : Nat → Int32) (mbk' : Nat → Int32) => r1 = r2 ∧ N sz pr pm kv kn kr kt' kb ks kj kw kg wd fw ad bk' md cr ow hd mtd' mnk mva mno mro mtu' mbx mst mja mpr mcr mow mhd mmo mbk' mca mfr mrs mrk mfe mus mgi maj))
def lw_c23 (x1 x2 : Int32) (sz : Int32) (pr : Nat → Int32) (pm : Nat → Nat) (kv : Nat → Int32) (kn : Nat → Int32) (kr : Nat → Int32) (kt : Nat → Int32) (kb : Nat → Int32) (ks : Nat → Int32) (kj : Nat → Int32) (kw : Nat → Int32) (kg : Nat → Int32) (wd : Nat → Nat → Int64) (fw : Nat → Nat → Int32) (ad : Nat → Int32) (bk : Nat → Int32) (md : Int32) (cr : Int32) (ow : Int32) (hd : Int32) (mtd : Int32) (mnk : Int32) (mva : Nat → Int32) (mno : Nat → Int32) (mro : Nat → Int32) (mtu : Nat → Int32) (mbx : Nat → Int32) (mst : Nat → Int32) (mja : Nat → Int32) (mpr : Nat → Int32) (mcr : Int32) (mow : Int32) (mhd : Int32) (mmo : Int32) (mbk : Nat → Int32) (mca : Nat → Int32) (mfr : Nat → Int32) (mrs : Int32) (mrk : Nat → Int32) (mfe : Nat → Int32) (mus : Nat → Int32) (mgi : Nat → Int32) (maj : Nat → Int32) (N : lwN) : Prop := wp_X5_count x1 x2 sz kv kn kr kt bk cr (fun (r1 : Int32) (kt' : Nat → Int32) (bk' : Nat → Int32) => wp_X6_count x1 x2 mtd mnk mva mno mro mtu mcr mbk (fun (r2 : Int32) (mtd' : Int32) (mtu' : Nat → Int32) (mbk' : Nat → Int32) => r1 = r2 ∧ N sz pr pm kv kn kr kt' kb ks kj kw kg wd fw ad bk' md cr ow hd mtd' mnk mva mno mro mtu' mbx mst mja mpr mcr mow mhd mmo mbk' mca mfr mrs mrk mfe mus mgi maj))
theorem cl_L_100 : clV RL 100 yX5_priced cX5_priced 2 (some .int) 1 := ⟨gt_in (by decide +kernel) rfl, gt_in (by decide +kernel) rfl, gt_in (by decide +kernel) rfl, gt_in (by decide +kernel) rfl, gt_in (by decide +kernel) rfl, by decide +kernel⟩
theorem cl_L_103 : clV RL 103 yX6_priced cX6_priced 2 (some .int) 1 := ⟨gt_in (by decide +kernel) rfl, gt_in (by decide +kernel) rfl, gt_in (by decide +kernel) rfl, gt_in (by decide +kernel) rfl, gt_in (by decide +kernel) rfl, by decide +kernel⟩
theorem cl_L_104 : clV RL 104 yX5_empty cX5_empty 2 (some .int) 0 := ⟨gt_in (by decide +kernel) rfl, gt_in (by decide +kernel) rfl, gt_in (by decide +kernel) rfl, gt_in (by decide +kernel) rfl, gt_in (by decide +kernel) rfl, by decide +kernel⟩
theorem cl_L_107 : clV RL 107 yX6_empty cX6_empty 3 (some .int) 0 := ⟨gt_in (by decide +kernel) rfl, gt_in (by decide +kernel) rfl, gt_in (by decide +kernel) rfl, gt_in (by decide +kernel) rfl, gt_in (by decide +kernel) rfl, by decide +kernel⟩
theorem cl_L_108 : clV RL 108 yX5_drain cX5_drain 4 (some .boolean) 2 := ⟨gt_in (by decide +kernel) rfl, gt_in (by decide +kernel) rfl, gt_in (by decide +kernel) rfl, gt_in (by decide +kernel) rfl, gt_in (by decide +kernel) rfl, by decide +kernel⟩
theorem cl_L_111 : clV RL 111 yX6_drain cX6_drain 3 (some .boolean) 2 := ⟨gt_in (by decide +kernel) rfl, gt_in (by decide +kernel) rfl, gt_in (by decide +kernel) rfl, gt_in (by decide +kernel) rfl, gt_in (by decide +kernel) rfl, by decide +kernel⟩
theorem cl_L_112 : clV RL 112 yX5_count cX5_count 5 (some .int) 2 := ⟨gt_in (by decide +kernel) rfl, gt_in (by decide +kernel) rfl, gt_in (by decide +kernel) rfl, gt_in (by decide +kernel) rfl, gt_in (by decide +kernel) rfl, by decide +kernel⟩
theorem cl_L_115 : clV RL 115 yX6_count cX6_count 4 (some .int) 2 := ⟨gt_in (by decide +kernel) rfl, gt_in (by decide +kernel) rfl, gt_in (by decide +kernel) rfl, gt_in (by decide +kernel) rfl, gt_in (by decide +kernel) rfl, by decide +kernel⟩
theorem cl_L_13 : clV RL 13 yX5_coin cX5_coin 3 (some .int) 2 := ⟨gt_in (by decide +kernel) rfl, gt_in (by decide +kernel) rfl, gt_in (by decide +kernel) rfl, gt_in (by decide +kernel) rfl, gt_in (by decide +kernel) rfl, by decide +kernel⟩
theorem cl_L_17 : clV RL 17 yX6_coin cX6_coin 3 (some .int) 2 := ⟨gt_in (by decide +kernel) rfl, gt_in (by decide +kernel) rfl, gt_in (by decide +kernel) rfl, gt_in (by decide +kernel) rfl, gt_in (by decide +kernel) rfl, by decide +kernel⟩
theorem cl_L_18 : clV RL 18 yX5_note cX5_note 2 (some .int) 1 := ⟨gt_in (by decide +kernel) rfl, gt_in (by decide +kernel) rfl, gt_in (by decide +kernel) rfl, gt_in (by decide +kernel) rfl, gt_in (by decide +kernel) rfl, by decide +kernel⟩
theorem cl_L_22 : clV RL 22 yX6_note cX6_note 2 (some .int) 1 := ⟨gt_in (by decide +kernel) rfl, gt_in (by decide +kernel) rfl, gt_in (by decide +kernel) rfl, gt_in (by decide +kernel) rfl, gt_in (by decide +kernel) rfl, by decide +kernel⟩
theorem cl_L_23 : clV RL 23 yX5_price cX5_price 3 (some .boolean) 2 := ⟨gt_in (by decide +kernel) rfl, gt_in (by decide +kernel) rfl, gt_in (by decide +kernel) rfl, gt_in (by decide +kernel) rfl, gt_in (by decide +kernel) rfl, by decide +kernel⟩
theorem cl_L_27 : clV RL 27 yX6_price cX6_price 3 (some .boolean) 2 := ⟨gt_in (by decide +kernel) rfl, gt_in (by decide +kernel) rfl, gt_in (by decide +kernel) rfl, gt_in (by decide +kernel) rfl, gt_in (by decide +kernel) rfl, by decide +kernel⟩
theorem cl_L_28 : clV RL 28 yX5_mode cX5_mode 2 (some .boolean) 1 := ⟨gt_in (by decide +kernel) rfl, gt_in (by decide +kernel) rfl, gt_in (by decide +kernel) rfl, gt_in (by decide +kernel) rfl, gt_in (by decide +kernel) rfl, by decide +kernel⟩
theorem cl_L_32 : clV RL 32 yX6_mode cX6_mode 2 (some .boolean) 1 := ⟨gt_in (by decide +kernel) rfl, gt_in (by decide +kernel) rfl, gt_in (by decide +kernel) rfl, gt_in (by decide +kernel) rfl, gt_in (by decide +kernel) rfl, by decide +kernel⟩
theorem cl_L_33 : clV RL 33 yX5_fill cX5_fill 4 (some .boolean) 2 := ⟨gt_in (by decide +kernel) rfl, gt_in (by decide +kernel) rfl, gt_in (by decide +kernel) rfl, gt_in (by decide +kernel) rfl, gt_in (by decide +kernel) rfl, by decide +kernel⟩
theorem cl_L_36 : clV RL 36 yX6_fill cX6_fill 3 (some .boolean) 2 := ⟨gt_in (by decide +kernel) rfl, gt_in (by decide +kernel) rfl, gt_in (by decide +kernel) rfl, gt_in (by decide +kernel) rfl, gt_in (by decide +kernel) rfl, by decide +kernel⟩
theorem cl_L_37 : clV RL 37 yX5_stuck cX5_stuck 4 (some .boolean) 2 := ⟨gt_in (by decide +kernel) rfl, gt_in (by decide +kernel) rfl, gt_in (by decide +kernel) rfl, gt_in (by decide +kernel) rfl, gt_in (by decide +kernel) rfl, by decide +kernel⟩
theorem cl_L_41 : clV RL 41 yX6_stuck cX6_stuck 3 (some .boolean) 2 := ⟨gt_in (by decide +kernel) rfl, gt_in (by decide +kernel) rfl, gt_in (by decide +kernel) rfl, gt_in (by decide +kernel) rfl, gt_in (by decide +kernel) rfl, by decide +kernel⟩
theorem cl_L_42 : clV RL 42 yX5_jam cX5_jam 4 (some .boolean) 2 := ⟨gt_in (by decide +kernel) rfl, gt_in (by decide +kernel) rfl, gt_in (by decide +kernel) rfl, gt_in (by decide +kernel) rfl, gt_in (by decide +kernel) rfl, by decide +kernel⟩
theorem cl_L_45 : clV RL 45 yX6_jam cX6_jam 3 (some .boolean) 2 := ⟨gt_in (by decide +kernel) rfl, gt_in (by decide +kernel) rfl, gt_in (by decide +kernel) rfl, gt_in (by decide +kernel) rfl, gt_in (by decide +kernel) rfl, by decide +kernel⟩
theorem cl_L_46 : clV RL 46 yX5_put cX5_put 3 (some .int) 1 := ⟨gt_in (by decide +kernel) rfl, gt_in (by decide +kernel) rfl, gt_in (by decide +kernel) rfl, gt_in (by decide +kernel) rfl, gt_in (by decide +kernel) rfl, by decide +kernel⟩
theorem cl_L_49 : clV RL 49 yX6_put cX6_put 2 (some .int) 1 := ⟨gt_in (by decide +kernel) rfl, gt_in (by decide +kernel) rfl, gt_in (by decide +kernel) rfl, gt_in (by decide +kernel) rfl, gt_in (by decide +kernel) rfl, by decide +kernel⟩
theorem cl_L_50 : clV RL 50 yX5_takes cX5_takes 3 (some .int) 1 := ⟨gt_in (by decide +kernel) rfl, gt_in (by decide +kernel) rfl, gt_in (by decide +kernel) rfl, gt_in (by decide +kernel) rfl, gt_in (by decide +kernel) rfl, by decide +kernel⟩
theorem cl_L_53 : clV RL 53 yX6_takes cX6_takes 2 (some .int) 1 := ⟨gt_in (by decide +kernel) rfl, gt_in (by decide +kernel) rfl, gt_in (by decide +kernel) rfl, gt_in (by decide +kernel) rfl, gt_in (by decide +kernel) rfl, by decide +kernel⟩
theorem cl_L_54 : clV RL 54 yX5_buy cX5_buy 5 (some .int) 1 := ⟨gt_in (by decide +kernel) rfl, gt_in (by decide +kernel) rfl, gt_in (by decide +kernel) rfl, gt_in (by decide +kernel) rfl, gt_in (by decide +kernel) rfl, by decide +kernel⟩
theorem cl_L_57 : clV RL 57 yX6_buy cX6_buy 3 (some .int) 1 := ⟨gt_in (by decide +kernel) rfl, gt_in (by decide +kernel) rfl, gt_in (by decide +kernel) rfl, gt_in (by decide +kernel) rfl, gt_in (by decide +kernel) rfl, by decide +kernel⟩
theorem cl_L_58 : clV RL 58 yX5_refund cX5_refund 3 (some .int) 0 := ⟨gt_in (by decide +kernel) rfl, gt_in (by decide +kernel) rfl, gt_in (by decide +kernel) rfl, gt_in (by decide +kernel) rfl, gt_in (by decide +kernel) rfl, by decide +kernel⟩
theorem cl_L_62 : clV RL 62 yX6_refund cX6_refund 2 (some .int) 0 := ⟨gt_in (by decide +kernel) rfl, gt_in (by decide +kernel) rfl, gt_in (by decide +kernel) rfl, gt_in (by decide +kernel) rfl, gt_in (by decide +kernel) rfl, by decide +kernel⟩
theorem cl_L_63 : clV RL 63 yX5_pay cX5_pay 2 (some .int) 0 := ⟨gt_in (by decide +kernel) rfl, gt_in (by decide +kernel) rfl, gt_in (by decide +kernel) rfl, gt_in (by decide +kernel) rfl, gt_in (by decide +kernel) rfl, by decide +kernel⟩
theorem cl_L_66 : clV RL 66 yX6_pay cX6_pay 2 (some .int) 0 := ⟨gt_in (by decide +kernel) rfl, gt_in (by decide +kernel) rfl, gt_in (by decide +kernel) rfl, gt_in (by decide +kernel) rfl, gt_in (by decide +kernel) rfl, by decide +kernel⟩
theorem cl_L_67 : clV RL 67 yX5_gave cX5_gave 3 (some .int) 1 := ⟨gt_in (by decide +kernel) rfl, gt_in (by decide +kernel) rfl, gt_in (by decide +kernel) rfl, gt_in (by decide +kernel) rfl, gt_in (by decide +kernel) rfl, by decide +kernel⟩
theorem cl_L_70 : clV RL 70 yX6_gave cX6_gave 2 (some .int) 1 := ⟨gt_in (by decide +kernel) rfl, gt_in (by decide +kernel) rfl, gt_in (by decide +kernel) rfl, gt_in (by decide +kernel) rfl, gt_in (by decide +kernel) rfl, by decide +kernel⟩
theorem cl_L_71 : clV RL 71 yX5_way cX5_way 4 (some .int) 2 := ⟨gt_in (by decide +kernel) rfl, gt_in (by decide +kernel) rfl, gt_in (by decide +kernel) rfl, gt_in (by decide +kernel) rfl, gt_in (by decide +kernel) rfl, by decide +kernel⟩
theorem cl_L_74 : clV RL 74 yX6_way cX6_way 3 (some .int) 2 := ⟨gt_in (by decide +kernel) rfl, gt_in (by decide +kernel) rfl, gt_in (by decide +kernel) rfl, gt_in (by decide +kernel) rfl, gt_in (by decide +kernel) rfl, by decide +kernel⟩
theorem cl_L_75 : clV RL 75 yX5_coins cX5_coins 2 (some .int) 1 := ⟨gt_in (by decide +kernel) rfl, gt_in (by decide +kernel) rfl, gt_in (by decide +kernel) rfl, gt_in (by decide +kernel) rfl, gt_in (by decide +kernel) rfl, by decide +kernel⟩
theorem cl_L_78 : clV RL 78 yX6_coins cX6_coins 4 (some .int) 1 := ⟨gt_in (by decide +kernel) rfl, gt_in (by decide +kernel) rfl, gt_in (by decide +kernel) rfl, gt_in (by decide +kernel) rfl, gt_in (by decide +kernel) rfl, by decide +kernel⟩
theorem cl_L_79 : clV RL 79 yX5_givable cX5_givable 2 (some .int) 1 := ⟨gt_in (by decide +kernel) rfl, gt_in (by decide +kernel) rfl, gt_in (by decide +kernel) rfl, gt_in (by decide +kernel) rfl, gt_in (by decide +kernel) rfl, by decide +kernel⟩
theorem cl_L_82 : clV RL 82 yX6_givable cX6_givable 4 (some .int) 1 := ⟨gt_in (by decide +kernel) rfl, gt_in (by decide +kernel) rfl, gt_in (by decide +kernel) rfl, gt_in (by decide +kernel) rfl, gt_in (by decide +kernel) rfl, by decide +kernel⟩
theorem cl_L_83 : clV RL 83 yX5_light cX5_light 1 (some .boolean) 0 := ⟨gt_in (by decide +kernel) rfl, gt_in (by decide +kernel) rfl, gt_in (by decide +kernel) rfl, gt_in (by decide +kernel) rfl, gt_in (by decide +kernel) rfl, by decide +kernel⟩
theorem cl_L_87 : clV RL 87 yX6_light cX6_light 1 (some .boolean) 0 := ⟨gt_in (by decide +kernel) rfl, gt_in (by decide +kernel) rfl, gt_in (by decide +kernel) rfl, gt_in (by decide +kernel) rfl, gt_in (by decide +kernel) rfl, by decide +kernel⟩
theorem cl_L_88 : clV RL 88 yX5_need cX5_need 4 (some .int) 1 := ⟨gt_in (by decide +kernel) rfl, gt_in (by decide +kernel) rfl, gt_in (by decide +kernel) rfl, gt_in (by decide +kernel) rfl, gt_in (by decide +kernel) rfl, by decide +kernel⟩
theorem cl_L_91 : clV RL 91 yX6_need cX6_need 4 (some .int) 1 := ⟨gt_in (by decide +kernel) rfl, gt_in (by decide +kernel) rfl, gt_in (by decide +kernel) rfl, gt_in (by decide +kernel) rfl, gt_in (by decide +kernel) rfl, by decide +kernel⟩
theorem cl_L_92 : clV RL 92 yX5_look cX5_look 2 (some .int) 1 := ⟨gt_in (by decide +kernel) rfl, gt_in (by decide +kernel) rfl, gt_in (by decide +kernel) rfl, gt_in (by decide +kernel) rfl, gt_in (by decide +kernel) rfl, by decide +kernel⟩
theorem cl_L_95 : clV RL 95 yX6_look cX6_look 4 (some .int) 1 := ⟨gt_in (by decide +kernel) rfl, gt_in (by decide +kernel) rfl, gt_in (by decide +kernel) rfl, gt_in (by decide +kernel) rfl, gt_in (by decide +kernel) rfl, by decide +kernel⟩
theorem cl_L_96 : clV RL 96 yX5_kind cX5_kind 4 (some .int) 2 := ⟨gt_in (by decide +kernel) rfl, gt_in (by decide +kernel) rfl, gt_in (by decide +kernel) rfl, gt_in (by decide +kernel) rfl, gt_in (by decide +kernel) rfl, by decide +kernel⟩
theorem cl_L_99 : clV RL 99 yX6_kind cX6_kind 3 (some .int) 2 := ⟨gt_in (by decide +kernel) rfl, gt_in (by decide +kernel) rfl, gt_in (by decide +kernel) rfl, gt_in (by decide +kernel) rfl, gt_in (by decide +kernel) rfl, by decide +kernel⟩
theorem dL_law_0 : decode cL_law 0 = .ok (.new 7, 3) := by decide +kernel
theorem dL_law_3 : decode cL_law 3 = .ok (.dup, 1) := by decide +kernel
theorem dL_law_4 : decode cL_law 4 = .ok (.invokespecial 9, 3) := by decide +kernel
theorem dL_law_7 : decode cL_law 7 = .ok (.astore_n 1, 1) := by decide +kernel
theorem dL_law_8 : decode cL_law 8 = .ok (.new 10, 3) := by decide +kernel
theorem dL_law_11 : decode cL_law 11 = .ok (.dup, 1) := by decide +kernel
theorem dL_law_12 : decode cL_law 12 = .ok (.invokespecial 12, 3) := by decide +kernel
theorem dL_law_15 : decode cL_law 15 = .ok (.astore_n 2, 1) := by decide +kernel
theorem dL_law_16 : decode cL_law 16 = .ok (.iconst 0, 1) := by decide +kernel
theorem dL_law_17 : decode cL_law 17 = .ok (.istore_n 3, 1) := by decide +kernel
theorem dL_law_18 : decode cL_law 18 = .ok (.iload_n 3, 1) := by decide +kernel
theorem dL_law_19 : decode cL_law 19 = .ok (.aload_n 0, 1) := by decide +kernel
theorem dL_law_20 : decode cL_law 20 = .ok (.arraylength, 1) := by decide +kernel
theorem dL_law_21 : decode cL_law 21 = .ok (.iconst 3, 1) := by decide +kernel
theorem dL_law_22 : decode cL_law 22 = .ok (.isub, 1) := by decide +kernel
theorem dL_law_23 : decode cL_law 23 = .ok (.if_icmp .gt 745, 3) := by decide +kernel
theorem dL_law_26 : decode cL_law 26 = .ok (.aload_n 0, 1) := by decide +kernel
theorem dL_law_27 : decode cL_law 27 = .ok (.iload_n 3, 1) := by decide +kernel
theorem dL_law_28 : decode cL_law 28 = .ok (.iaload, 1) := by decide +kernel
theorem dL_law_29 : decode cL_law 29 = .ok (.bipush 31, 2) := by decide +kernel
theorem dL_law_31 : decode cL_law 31 = .ok (.iand, 1) := by decide +kernel
theorem dL_law_32 : decode cL_law 32 = .ok (.tableswitch 730 0 23 #[112, 145, 168, 201, 224, 257, 306, 339, 362, 385, 408, 421, 434, 457, 490, 513, 536, 549, 572, 595, 628, 651, 664, 697], 112) := by decide +kernel
theorem dL_law_144 : decode cL_law 144 = .ok (.aload_n 1, 1) := by decide +kernel
theorem dL_law_145 : decode cL_law 145 = .ok (.aload_n 0, 1) := by decide +kernel
theorem dL_law_146 : decode cL_law 146 = .ok (.iload_n 3, 1) := by decide +kernel
theorem dL_law_147 : decode cL_law 147 = .ok (.iconst 1, 1) := by decide +kernel
theorem dL_law_148 : decode cL_law 148 = .ok (.iadd, 1) := by decide +kernel
theorem dL_law_149 : decode cL_law 149 = .ok (.iaload, 1) := by decide +kernel
theorem dL_law_150 : decode cL_law 150 = .ok (.aload_n 0, 1) := by decide +kernel
theorem dL_law_151 : decode cL_law 151 = .ok (.iload_n 3, 1) := by decide +kernel
theorem dL_law_152 : decode cL_law 152 = .ok (.iconst 2, 1) := by decide +kernel
theorem dL_law_153 : decode cL_law 153 = .ok (.iadd, 1) := by decide +kernel
theorem dL_law_154 : decode cL_law 154 = .ok (.iaload, 1) := by decide +kernel
theorem dL_law_155 : decode cL_law 155 = .ok (.invokevirtual 13, 3) := by decide +kernel
theorem dL_law_158 : decode cL_law 158 = .ok (.aload_n 2, 1) := by decide +kernel
theorem dL_law_159 : decode cL_law 159 = .ok (.aload_n 0, 1) := by decide +kernel
theorem dL_law_160 : decode cL_law 160 = .ok (.iload_n 3, 1) := by decide +kernel
theorem dL_law_161 : decode cL_law 161 = .ok (.iconst 1, 1) := by decide +kernel
theorem dL_law_162 : decode cL_law 162 = .ok (.iadd, 1) := by decide +kernel
theorem dL_law_163 : decode cL_law 163 = .ok (.iaload, 1) := by decide +kernel
theorem dL_law_164 : decode cL_law 164 = .ok (.aload_n 0, 1) := by decide +kernel
theorem dL_law_165 : decode cL_law 165 = .ok (.iload_n 3, 1) := by decide +kernel
theorem dL_law_166 : decode cL_law 166 = .ok (.iconst 2, 1) := by decide +kernel
theorem dL_law_167 : decode cL_law 167 = .ok (.iadd, 1) := by decide +kernel
theorem dL_law_168 : decode cL_law 168 = .ok (.iaload, 1) := by decide +kernel
theorem dL_law_169 : decode cL_law 169 = .ok (.invokevirtual 17, 3) := by decide +kernel
theorem dL_law_172 : decode cL_law 172 = .ok (.if_icmp .eq 590, 3) := by decide +kernel
theorem dL_law_175 : decode cL_law 175 = .ok (.iconst 0, 1) := by decide +kernel
theorem dL_law_176 : decode cL_law 176 = .ok (.ireturn, 1) := by decide +kernel
theorem dL_law_177 : decode cL_law 177 = .ok (.aload_n 1, 1) := by decide +kernel
theorem dL_law_178 : decode cL_law 178 = .ok (.aload_n 0, 1) := by decide +kernel
theorem dL_law_179 : decode cL_law 179 = .ok (.iload_n 3, 1) := by decide +kernel
theorem dL_law_180 : decode cL_law 180 = .ok (.iconst 1, 1) := by decide +kernel
theorem dL_law_181 : decode cL_law 181 = .ok (.iadd, 1) := by decide +kernel
theorem dL_law_182 : decode cL_law 182 = .ok (.iaload, 1) := by decide +kernel
theorem dL_law_183 : decode cL_law 183 = .ok (.invokevirtual 18, 3) := by decide +kernel
theorem dL_law_186 : decode cL_law 186 = .ok (.aload_n 2, 1) := by decide +kernel
theorem dL_law_187 : decode cL_law 187 = .ok (.aload_n 0, 1) := by decide +kernel
theorem dL_law_188 : decode cL_law 188 = .ok (.iload_n 3, 1) := by decide +kernel
theorem dL_law_189 : decode cL_law 189 = .ok (.iconst 1, 1) := by decide +kernel
theorem dL_law_190 : decode cL_law 190 = .ok (.iadd, 1) := by decide +kernel
theorem dL_law_191 : decode cL_law 191 = .ok (.iaload, 1) := by decide +kernel
theorem dL_law_192 : decode cL_law 192 = .ok (.invokevirtual 22, 3) := by decide +kernel
theorem dL_law_195 : decode cL_law 195 = .ok (.if_icmp .eq 567, 3) := by decide +kernel
theorem dL_law_198 : decode cL_law 198 = .ok (.iconst 0, 1) := by decide +kernel
theorem dL_law_199 : decode cL_law 199 = .ok (.ireturn, 1) := by decide +kernel
theorem dL_law_200 : decode cL_law 200 = .ok (.aload_n 1, 1) := by decide +kernel
theorem dL_law_201 : decode cL_law 201 = .ok (.aload_n 0, 1) := by decide +kernel
theorem dL_law_202 : decode cL_law 202 = .ok (.iload_n 3, 1) := by decide +kernel
theorem dL_law_203 : decode cL_law 203 = .ok (.iconst 1, 1) := by decide +kernel
theorem dL_law_204 : decode cL_law 204 = .ok (.iadd, 1) := by decide +kernel
theorem dL_law_205 : decode cL_law 205 = .ok (.iaload, 1) := by decide +kernel
theorem dL_law_206 : decode cL_law 206 = .ok (.aload_n 0, 1) := by decide +kernel
theorem dL_law_207 : decode cL_law 207 = .ok (.iload_n 3, 1) := by decide +kernel
theorem dL_law_208 : decode cL_law 208 = .ok (.iconst 2, 1) := by decide +kernel
theorem dL_law_209 : decode cL_law 209 = .ok (.iadd, 1) := by decide +kernel
theorem dL_law_210 : decode cL_law 210 = .ok (.iaload, 1) := by decide +kernel
theorem dL_law_211 : decode cL_law 211 = .ok (.invokevirtual 23, 3) := by decide +kernel
theorem dL_law_214 : decode cL_law 214 = .ok (.aload_n 2, 1) := by decide +kernel
theorem dL_law_215 : decode cL_law 215 = .ok (.aload_n 0, 1) := by decide +kernel
theorem dL_law_216 : decode cL_law 216 = .ok (.iload_n 3, 1) := by decide +kernel
theorem dL_law_217 : decode cL_law 217 = .ok (.iconst 1, 1) := by decide +kernel
theorem dL_law_218 : decode cL_law 218 = .ok (.iadd, 1) := by decide +kernel
theorem dL_law_219 : decode cL_law 219 = .ok (.iaload, 1) := by decide +kernel
theorem dL_law_220 : decode cL_law 220 = .ok (.aload_n 0, 1) := by decide +kernel
theorem dL_law_221 : decode cL_law 221 = .ok (.iload_n 3, 1) := by decide +kernel
theorem dL_law_222 : decode cL_law 222 = .ok (.iconst 2, 1) := by decide +kernel
theorem dL_law_223 : decode cL_law 223 = .ok (.iadd, 1) := by decide +kernel
theorem dL_law_224 : decode cL_law 224 = .ok (.iaload, 1) := by decide +kernel
theorem dL_law_225 : decode cL_law 225 = .ok (.invokevirtual 27, 3) := by decide +kernel
theorem dL_law_228 : decode cL_law 228 = .ok (.if_icmp .eq 534, 3) := by decide +kernel
theorem dL_law_231 : decode cL_law 231 = .ok (.iconst 0, 1) := by decide +kernel
theorem dL_law_232 : decode cL_law 232 = .ok (.ireturn, 1) := by decide +kernel
theorem dL_law_233 : decode cL_law 233 = .ok (.aload_n 1, 1) := by decide +kernel
theorem dL_law_234 : decode cL_law 234 = .ok (.aload_n 0, 1) := by decide +kernel
theorem dL_law_235 : decode cL_law 235 = .ok (.iload_n 3, 1) := by decide +kernel
theorem dL_law_236 : decode cL_law 236 = .ok (.iconst 1, 1) := by decide +kernel
theorem dL_law_237 : decode cL_law 237 = .ok (.iadd, 1) := by decide +kernel
theorem dL_law_238 : decode cL_law 238 = .ok (.iaload, 1) := by decide +kernel
theorem dL_law_239 : decode cL_law 239 = .ok (.invokevirtual 28, 3) := by decide +kernel
theorem dL_law_242 : decode cL_law 242 = .ok (.aload_n 2, 1) := by decide +kernel
theorem dL_law_243 : decode cL_law 243 = .ok (.aload_n 0, 1) := by decide +kernel
theorem dL_law_244 : decode cL_law 244 = .ok (.iload_n 3, 1) := by decide +kernel
theorem dL_law_245 : decode cL_law 245 = .ok (.iconst 1, 1) := by decide +kernel
theorem dL_law_246 : decode cL_law 246 = .ok (.iadd, 1) := by decide +kernel
theorem dL_law_247 : decode cL_law 247 = .ok (.iaload, 1) := by decide +kernel
theorem dL_law_248 : decode cL_law 248 = .ok (.invokevirtual 32, 3) := by decide +kernel
theorem dL_law_251 : decode cL_law 251 = .ok (.if_icmp .eq 511, 3) := by decide +kernel
theorem dL_law_254 : decode cL_law 254 = .ok (.iconst 0, 1) := by decide +kernel
theorem dL_law_255 : decode cL_law 255 = .ok (.ireturn, 1) := by decide +kernel
theorem dL_law_256 : decode cL_law 256 = .ok (.aload_n 1, 1) := by decide +kernel
theorem dL_law_257 : decode cL_law 257 = .ok (.aload_n 0, 1) := by decide +kernel
theorem dL_law_258 : decode cL_law 258 = .ok (.iload_n 3, 1) := by decide +kernel
theorem dL_law_259 : decode cL_law 259 = .ok (.iconst 1, 1) := by decide +kernel
theorem dL_law_260 : decode cL_law 260 = .ok (.iadd, 1) := by decide +kernel
theorem dL_law_261 : decode cL_law 261 = .ok (.iaload, 1) := by decide +kernel
theorem dL_law_262 : decode cL_law 262 = .ok (.aload_n 0, 1) := by decide +kernel
theorem dL_law_263 : decode cL_law 263 = .ok (.iload_n 3, 1) := by decide +kernel
theorem dL_law_264 : decode cL_law 264 = .ok (.iconst 2, 1) := by decide +kernel
theorem dL_law_265 : decode cL_law 265 = .ok (.iadd, 1) := by decide +kernel
theorem dL_law_266 : decode cL_law 266 = .ok (.iaload, 1) := by decide +kernel
theorem dL_law_267 : decode cL_law 267 = .ok (.invokevirtual 33, 3) := by decide +kernel
theorem dL_law_270 : decode cL_law 270 = .ok (.aload_n 2, 1) := by decide +kernel
theorem dL_law_271 : decode cL_law 271 = .ok (.aload_n 0, 1) := by decide +kernel
theorem dL_law_272 : decode cL_law 272 = .ok (.iload_n 3, 1) := by decide +kernel
theorem dL_law_273 : decode cL_law 273 = .ok (.iconst 1, 1) := by decide +kernel
theorem dL_law_274 : decode cL_law 274 = .ok (.iadd, 1) := by decide +kernel
theorem dL_law_275 : decode cL_law 275 = .ok (.iaload, 1) := by decide +kernel
theorem dL_law_276 : decode cL_law 276 = .ok (.aload_n 0, 1) := by decide +kernel
theorem dL_law_277 : decode cL_law 277 = .ok (.iload_n 3, 1) := by decide +kernel
theorem dL_law_278 : decode cL_law 278 = .ok (.iconst 2, 1) := by decide +kernel
theorem dL_law_279 : decode cL_law 279 = .ok (.iadd, 1) := by decide +kernel
theorem dL_law_280 : decode cL_law 280 = .ok (.iaload, 1) := by decide +kernel
theorem dL_law_281 : decode cL_law 281 = .ok (.invokevirtual 36, 3) := by decide +kernel
theorem dL_law_284 : decode cL_law 284 = .ok (.if_icmp .eq 478, 3) := by decide +kernel
theorem dL_law_287 : decode cL_law 287 = .ok (.iconst 0, 1) := by decide +kernel
theorem dL_law_288 : decode cL_law 288 = .ok (.ireturn, 1) := by decide +kernel
theorem dL_law_289 : decode cL_law 289 = .ok (.aload_n 1, 1) := by decide +kernel
theorem dL_law_290 : decode cL_law 290 = .ok (.aload_n 0, 1) := by decide +kernel
theorem dL_law_291 : decode cL_law 291 = .ok (.iload_n 3, 1) := by decide +kernel
theorem dL_law_292 : decode cL_law 292 = .ok (.iconst 1, 1) := by decide +kernel
theorem dL_law_293 : decode cL_law 293 = .ok (.iadd, 1) := by decide +kernel
theorem dL_law_294 : decode cL_law 294 = .ok (.iaload, 1) := by decide +kernel
theorem dL_law_295 : decode cL_law 295 = .ok (.aload_n 0, 1) := by decide +kernel
theorem dL_law_296 : decode cL_law 296 = .ok (.iload_n 3, 1) := by decide +kernel
theorem dL_law_297 : decode cL_law 297 = .ok (.iconst 2, 1) := by decide +kernel
theorem dL_law_298 : decode cL_law 298 = .ok (.iadd, 1) := by decide +kernel
theorem dL_law_299 : decode cL_law 299 = .ok (.iaload, 1) := by decide +kernel
theorem dL_law_300 : decode cL_law 300 = .ok (.ifCond .eq 7, 3) := by decide +kernel
theorem dL_law_303 : decode cL_law 303 = .ok (.iconst 1, 1) := by decide +kernel
theorem dL_law_304 : decode cL_law 304 = .ok (.goto 4, 3) := by decide +kernel
theorem dL_law_307 : decode cL_law 307 = .ok (.iconst 0, 1) := by decide +kernel
theorem dL_law_308 : decode cL_law 308 = .ok (.invokevirtual 37, 3) := by decide +kernel
theorem dL_law_311 : decode cL_law 311 = .ok (.aload_n 2, 1) := by decide +kernel
theorem dL_law_312 : decode cL_law 312 = .ok (.aload_n 0, 1) := by decide +kernel
theorem dL_law_313 : decode cL_law 313 = .ok (.iload_n 3, 1) := by decide +kernel
theorem dL_law_314 : decode cL_law 314 = .ok (.iconst 1, 1) := by decide +kernel
theorem dL_law_315 : decode cL_law 315 = .ok (.iadd, 1) := by decide +kernel
theorem dL_law_316 : decode cL_law 316 = .ok (.iaload, 1) := by decide +kernel
theorem dL_law_317 : decode cL_law 317 = .ok (.aload_n 0, 1) := by decide +kernel
theorem dL_law_318 : decode cL_law 318 = .ok (.iload_n 3, 1) := by decide +kernel
theorem dL_law_319 : decode cL_law 319 = .ok (.iconst 2, 1) := by decide +kernel
theorem dL_law_320 : decode cL_law 320 = .ok (.iadd, 1) := by decide +kernel
theorem dL_law_321 : decode cL_law 321 = .ok (.iaload, 1) := by decide +kernel
theorem dL_law_322 : decode cL_law 322 = .ok (.ifCond .eq 7, 3) := by decide +kernel
theorem dL_law_325 : decode cL_law 325 = .ok (.iconst 1, 1) := by decide +kernel
theorem dL_law_326 : decode cL_law 326 = .ok (.goto 4, 3) := by decide +kernel
theorem dL_law_329 : decode cL_law 329 = .ok (.iconst 0, 1) := by decide +kernel
theorem dL_law_330 : decode cL_law 330 = .ok (.invokevirtual 41, 3) := by decide +kernel
theorem dL_law_333 : decode cL_law 333 = .ok (.if_icmp .eq 429, 3) := by decide +kernel
theorem dL_law_336 : decode cL_law 336 = .ok (.iconst 0, 1) := by decide +kernel
theorem dL_law_337 : decode cL_law 337 = .ok (.ireturn, 1) := by decide +kernel
theorem dL_law_338 : decode cL_law 338 = .ok (.aload_n 1, 1) := by decide +kernel
theorem dL_law_339 : decode cL_law 339 = .ok (.aload_n 0, 1) := by decide +kernel
theorem dL_law_340 : decode cL_law 340 = .ok (.iload_n 3, 1) := by decide +kernel
theorem dL_law_341 : decode cL_law 341 = .ok (.iconst 1, 1) := by decide +kernel
theorem dL_law_342 : decode cL_law 342 = .ok (.iadd, 1) := by decide +kernel
theorem dL_law_343 : decode cL_law 343 = .ok (.iaload, 1) := by decide +kernel
theorem dL_law_344 : decode cL_law 344 = .ok (.aload_n 0, 1) := by decide +kernel
theorem dL_law_345 : decode cL_law 345 = .ok (.iload_n 3, 1) := by decide +kernel
theorem dL_law_346 : decode cL_law 346 = .ok (.iconst 2, 1) := by decide +kernel
theorem dL_law_347 : decode cL_law 347 = .ok (.iadd, 1) := by decide +kernel
theorem dL_law_348 : decode cL_law 348 = .ok (.iaload, 1) := by decide +kernel
theorem dL_law_349 : decode cL_law 349 = .ok (.invokevirtual 42, 3) := by decide +kernel
theorem dL_law_352 : decode cL_law 352 = .ok (.aload_n 2, 1) := by decide +kernel
theorem dL_law_353 : decode cL_law 353 = .ok (.aload_n 0, 1) := by decide +kernel
theorem dL_law_354 : decode cL_law 354 = .ok (.iload_n 3, 1) := by decide +kernel
theorem dL_law_355 : decode cL_law 355 = .ok (.iconst 1, 1) := by decide +kernel
theorem dL_law_356 : decode cL_law 356 = .ok (.iadd, 1) := by decide +kernel
theorem dL_law_357 : decode cL_law 357 = .ok (.iaload, 1) := by decide +kernel
theorem dL_law_358 : decode cL_law 358 = .ok (.aload_n 0, 1) := by decide +kernel
theorem dL_law_359 : decode cL_law 359 = .ok (.iload_n 3, 1) := by decide +kernel
theorem dL_law_360 : decode cL_law 360 = .ok (.iconst 2, 1) := by decide +kernel
theorem dL_law_361 : decode cL_law 361 = .ok (.iadd, 1) := by decide +kernel
theorem dL_law_362 : decode cL_law 362 = .ok (.iaload, 1) := by decide +kernel
theorem dL_law_363 : decode cL_law 363 = .ok (.invokevirtual 45, 3) := by decide +kernel
theorem dL_law_366 : decode cL_law 366 = .ok (.if_icmp .eq 396, 3) := by decide +kernel
theorem dL_law_369 : decode cL_law 369 = .ok (.iconst 0, 1) := by decide +kernel
theorem dL_law_370 : decode cL_law 370 = .ok (.ireturn, 1) := by decide +kernel
theorem dL_law_371 : decode cL_law 371 = .ok (.aload_n 1, 1) := by decide +kernel
theorem dL_law_372 : decode cL_law 372 = .ok (.aload_n 0, 1) := by decide +kernel
theorem dL_law_373 : decode cL_law 373 = .ok (.iload_n 3, 1) := by decide +kernel
theorem dL_law_374 : decode cL_law 374 = .ok (.iconst 1, 1) := by decide +kernel
theorem dL_law_375 : decode cL_law 375 = .ok (.iadd, 1) := by decide +kernel
theorem dL_law_376 : decode cL_law 376 = .ok (.iaload, 1) := by decide +kernel
theorem dL_law_377 : decode cL_law 377 = .ok (.invokevirtual 46, 3) := by decide +kernel
theorem dL_law_380 : decode cL_law 380 = .ok (.aload_n 2, 1) := by decide +kernel
theorem dL_law_381 : decode cL_law 381 = .ok (.aload_n 0, 1) := by decide +kernel
theorem dL_law_382 : decode cL_law 382 = .ok (.iload_n 3, 1) := by decide +kernel
theorem dL_law_383 : decode cL_law 383 = .ok (.iconst 1, 1) := by decide +kernel
theorem dL_law_384 : decode cL_law 384 = .ok (.iadd, 1) := by decide +kernel
theorem dL_law_385 : decode cL_law 385 = .ok (.iaload, 1) := by decide +kernel
theorem dL_law_386 : decode cL_law 386 = .ok (.invokevirtual 49, 3) := by decide +kernel
theorem dL_law_389 : decode cL_law 389 = .ok (.if_icmp .eq 373, 3) := by decide +kernel
theorem dL_law_392 : decode cL_law 392 = .ok (.iconst 0, 1) := by decide +kernel
theorem dL_law_393 : decode cL_law 393 = .ok (.ireturn, 1) := by decide +kernel
theorem dL_law_394 : decode cL_law 394 = .ok (.aload_n 1, 1) := by decide +kernel
theorem dL_law_395 : decode cL_law 395 = .ok (.aload_n 0, 1) := by decide +kernel
theorem dL_law_396 : decode cL_law 396 = .ok (.iload_n 3, 1) := by decide +kernel
theorem dL_law_397 : decode cL_law 397 = .ok (.iconst 1, 1) := by decide +kernel
theorem dL_law_398 : decode cL_law 398 = .ok (.iadd, 1) := by decide +kernel
theorem dL_law_399 : decode cL_law 399 = .ok (.iaload, 1) := by decide +kernel
theorem dL_law_400 : decode cL_law 400 = .ok (.invokevirtual 50, 3) := by decide +kernel
theorem dL_law_403 : decode cL_law 403 = .ok (.aload_n 2, 1) := by decide +kernel
theorem dL_law_404 : decode cL_law 404 = .ok (.aload_n 0, 1) := by decide +kernel
theorem dL_law_405 : decode cL_law 405 = .ok (.iload_n 3, 1) := by decide +kernel
theorem dL_law_406 : decode cL_law 406 = .ok (.iconst 1, 1) := by decide +kernel
theorem dL_law_407 : decode cL_law 407 = .ok (.iadd, 1) := by decide +kernel
theorem dL_law_408 : decode cL_law 408 = .ok (.iaload, 1) := by decide +kernel
theorem dL_law_409 : decode cL_law 409 = .ok (.invokevirtual 53, 3) := by decide +kernel
theorem dL_law_412 : decode cL_law 412 = .ok (.if_icmp .eq 350, 3) := by decide +kernel
theorem dL_law_415 : decode cL_law 415 = .ok (.iconst 0, 1) := by decide +kernel
theorem dL_law_416 : decode cL_law 416 = .ok (.ireturn, 1) := by decide +kernel
theorem dL_law_417 : decode cL_law 417 = .ok (.aload_n 1, 1) := by decide +kernel
theorem dL_law_418 : decode cL_law 418 = .ok (.aload_n 0, 1) := by decide +kernel
theorem dL_law_419 : decode cL_law 419 = .ok (.iload_n 3, 1) := by decide +kernel
theorem dL_law_420 : decode cL_law 420 = .ok (.iconst 1, 1) := by decide +kernel
theorem dL_law_421 : decode cL_law 421 = .ok (.iadd, 1) := by decide +kernel
theorem dL_law_422 : decode cL_law 422 = .ok (.iaload, 1) := by decide +kernel
theorem dL_law_423 : decode cL_law 423 = .ok (.invokevirtual 54, 3) := by decide +kernel
theorem dL_law_426 : decode cL_law 426 = .ok (.aload_n 2, 1) := by decide +kernel
theorem dL_law_427 : decode cL_law 427 = .ok (.aload_n 0, 1) := by decide +kernel
theorem dL_law_428 : decode cL_law 428 = .ok (.iload_n 3, 1) := by decide +kernel
theorem dL_law_429 : decode cL_law 429 = .ok (.iconst 1, 1) := by decide +kernel
theorem dL_law_430 : decode cL_law 430 = .ok (.iadd, 1) := by decide +kernel
theorem dL_law_431 : decode cL_law 431 = .ok (.iaload, 1) := by decide +kernel
theorem dL_law_432 : decode cL_law 432 = .ok (.invokevirtual 57, 3) := by decide +kernel
theorem dL_law_435 : decode cL_law 435 = .ok (.if_icmp .eq 327, 3) := by decide +kernel
theorem dL_law_438 : decode cL_law 438 = .ok (.iconst 0, 1) := by decide +kernel
theorem dL_law_439 : decode cL_law 439 = .ok (.ireturn, 1) := by decide +kernel
theorem dL_law_440 : decode cL_law 440 = .ok (.aload_n 1, 1) := by decide +kernel
theorem dL_law_441 : decode cL_law 441 = .ok (.invokevirtual 58, 3) := by decide +kernel
theorem dL_law_444 : decode cL_law 444 = .ok (.aload_n 2, 1) := by decide +kernel
theorem dL_law_445 : decode cL_law 445 = .ok (.invokevirtual 62, 3) := by decide +kernel
theorem dL_law_448 : decode cL_law 448 = .ok (.if_icmp .eq 314, 3) := by decide +kernel
theorem dL_law_451 : decode cL_law 451 = .ok (.iconst 0, 1) := by decide +kernel
theorem dL_law_452 : decode cL_law 452 = .ok (.ireturn, 1) := by decide +kernel
theorem dL_law_453 : decode cL_law 453 = .ok (.aload_n 1, 1) := by decide +kernel
theorem dL_law_454 : decode cL_law 454 = .ok (.invokevirtual 63, 3) := by decide +kernel
theorem dL_law_457 : decode cL_law 457 = .ok (.aload_n 2, 1) := by decide +kernel
theorem dL_law_458 : decode cL_law 458 = .ok (.invokevirtual 66, 3) := by decide +kernel
theorem dL_law_461 : decode cL_law 461 = .ok (.if_icmp .eq 301, 3) := by decide +kernel
theorem dL_law_464 : decode cL_law 464 = .ok (.iconst 0, 1) := by decide +kernel
theorem dL_law_465 : decode cL_law 465 = .ok (.ireturn, 1) := by decide +kernel
theorem dL_law_466 : decode cL_law 466 = .ok (.aload_n 1, 1) := by decide +kernel
theorem dL_law_467 : decode cL_law 467 = .ok (.aload_n 0, 1) := by decide +kernel
theorem dL_law_468 : decode cL_law 468 = .ok (.iload_n 3, 1) := by decide +kernel
theorem dL_law_469 : decode cL_law 469 = .ok (.iconst 1, 1) := by decide +kernel
theorem dL_law_470 : decode cL_law 470 = .ok (.iadd, 1) := by decide +kernel
theorem dL_law_471 : decode cL_law 471 = .ok (.iaload, 1) := by decide +kernel
theorem dL_law_472 : decode cL_law 472 = .ok (.invokevirtual 67, 3) := by decide +kernel
theorem dL_law_475 : decode cL_law 475 = .ok (.aload_n 2, 1) := by decide +kernel
theorem dL_law_476 : decode cL_law 476 = .ok (.aload_n 0, 1) := by decide +kernel
theorem dL_law_477 : decode cL_law 477 = .ok (.iload_n 3, 1) := by decide +kernel
theorem dL_law_478 : decode cL_law 478 = .ok (.iconst 1, 1) := by decide +kernel
theorem dL_law_479 : decode cL_law 479 = .ok (.iadd, 1) := by decide +kernel
theorem dL_law_480 : decode cL_law 480 = .ok (.iaload, 1) := by decide +kernel
theorem dL_law_481 : decode cL_law 481 = .ok (.invokevirtual 70, 3) := by decide +kernel
theorem dL_law_484 : decode cL_law 484 = .ok (.if_icmp .eq 278, 3) := by decide +kernel
theorem dL_law_487 : decode cL_law 487 = .ok (.iconst 0, 1) := by decide +kernel
theorem dL_law_488 : decode cL_law 488 = .ok (.ireturn, 1) := by decide +kernel
theorem dL_law_489 : decode cL_law 489 = .ok (.aload_n 1, 1) := by decide +kernel
theorem dL_law_490 : decode cL_law 490 = .ok (.aload_n 0, 1) := by decide +kernel
theorem dL_law_491 : decode cL_law 491 = .ok (.iload_n 3, 1) := by decide +kernel
theorem dL_law_492 : decode cL_law 492 = .ok (.iconst 1, 1) := by decide +kernel
theorem dL_law_493 : decode cL_law 493 = .ok (.iadd, 1) := by decide +kernel
theorem dL_law_494 : decode cL_law 494 = .ok (.iaload, 1) := by decide +kernel
theorem dL_law_495 : decode cL_law 495 = .ok (.aload_n 0, 1) := by decide +kernel
theorem dL_law_496 : decode cL_law 496 = .ok (.iload_n 3, 1) := by decide +kernel
theorem dL_law_497 : decode cL_law 497 = .ok (.iconst 2, 1) := by decide +kernel
theorem dL_law_498 : decode cL_law 498 = .ok (.iadd, 1) := by decide +kernel
theorem dL_law_499 : decode cL_law 499 = .ok (.iaload, 1) := by decide +kernel
theorem dL_law_500 : decode cL_law 500 = .ok (.invokevirtual 71, 3) := by decide +kernel
theorem dL_law_503 : decode cL_law 503 = .ok (.aload_n 2, 1) := by decide +kernel
theorem dL_law_504 : decode cL_law 504 = .ok (.aload_n 0, 1) := by decide +kernel
theorem dL_law_505 : decode cL_law 505 = .ok (.iload_n 3, 1) := by decide +kernel
theorem dL_law_506 : decode cL_law 506 = .ok (.iconst 1, 1) := by decide +kernel
theorem dL_law_507 : decode cL_law 507 = .ok (.iadd, 1) := by decide +kernel
theorem dL_law_508 : decode cL_law 508 = .ok (.iaload, 1) := by decide +kernel
theorem dL_law_509 : decode cL_law 509 = .ok (.aload_n 0, 1) := by decide +kernel
theorem dL_law_510 : decode cL_law 510 = .ok (.iload_n 3, 1) := by decide +kernel
theorem dL_law_511 : decode cL_law 511 = .ok (.iconst 2, 1) := by decide +kernel
theorem dL_law_512 : decode cL_law 512 = .ok (.iadd, 1) := by decide +kernel
theorem dL_law_513 : decode cL_law 513 = .ok (.iaload, 1) := by decide +kernel
theorem dL_law_514 : decode cL_law 514 = .ok (.invokevirtual 74, 3) := by decide +kernel
theorem dL_law_517 : decode cL_law 517 = .ok (.if_icmp .eq 245, 3) := by decide +kernel
theorem dL_law_520 : decode cL_law 520 = .ok (.iconst 0, 1) := by decide +kernel
theorem dL_law_521 : decode cL_law 521 = .ok (.ireturn, 1) := by decide +kernel
theorem dL_law_522 : decode cL_law 522 = .ok (.aload_n 1, 1) := by decide +kernel
theorem dL_law_523 : decode cL_law 523 = .ok (.aload_n 0, 1) := by decide +kernel
theorem dL_law_524 : decode cL_law 524 = .ok (.iload_n 3, 1) := by decide +kernel
theorem dL_law_525 : decode cL_law 525 = .ok (.iconst 1, 1) := by decide +kernel
theorem dL_law_526 : decode cL_law 526 = .ok (.iadd, 1) := by decide +kernel
theorem dL_law_527 : decode cL_law 527 = .ok (.iaload, 1) := by decide +kernel
theorem dL_law_528 : decode cL_law 528 = .ok (.invokevirtual 75, 3) := by decide +kernel
theorem dL_law_531 : decode cL_law 531 = .ok (.aload_n 2, 1) := by decide +kernel
theorem dL_law_532 : decode cL_law 532 = .ok (.aload_n 0, 1) := by decide +kernel
theorem dL_law_533 : decode cL_law 533 = .ok (.iload_n 3, 1) := by decide +kernel
theorem dL_law_534 : decode cL_law 534 = .ok (.iconst 1, 1) := by decide +kernel
theorem dL_law_535 : decode cL_law 535 = .ok (.iadd, 1) := by decide +kernel
theorem dL_law_536 : decode cL_law 536 = .ok (.iaload, 1) := by decide +kernel
theorem dL_law_537 : decode cL_law 537 = .ok (.invokevirtual 78, 3) := by decide +kernel
theorem dL_law_540 : decode cL_law 540 = .ok (.if_icmp .eq 222, 3) := by decide +kernel
theorem dL_law_543 : decode cL_law 543 = .ok (.iconst 0, 1) := by decide +kernel
theorem dL_law_544 : decode cL_law 544 = .ok (.ireturn, 1) := by decide +kernel
theorem dL_law_545 : decode cL_law 545 = .ok (.aload_n 1, 1) := by decide +kernel
theorem dL_law_546 : decode cL_law 546 = .ok (.aload_n 0, 1) := by decide +kernel
theorem dL_law_547 : decode cL_law 547 = .ok (.iload_n 3, 1) := by decide +kernel
theorem dL_law_548 : decode cL_law 548 = .ok (.iconst 1, 1) := by decide +kernel
theorem dL_law_549 : decode cL_law 549 = .ok (.iadd, 1) := by decide +kernel
theorem dL_law_550 : decode cL_law 550 = .ok (.iaload, 1) := by decide +kernel
theorem dL_law_551 : decode cL_law 551 = .ok (.invokevirtual 79, 3) := by decide +kernel
theorem dL_law_554 : decode cL_law 554 = .ok (.aload_n 2, 1) := by decide +kernel
theorem dL_law_555 : decode cL_law 555 = .ok (.aload_n 0, 1) := by decide +kernel
theorem dL_law_556 : decode cL_law 556 = .ok (.iload_n 3, 1) := by decide +kernel
theorem dL_law_557 : decode cL_law 557 = .ok (.iconst 1, 1) := by decide +kernel
theorem dL_law_558 : decode cL_law 558 = .ok (.iadd, 1) := by decide +kernel
theorem dL_law_559 : decode cL_law 559 = .ok (.iaload, 1) := by decide +kernel
theorem dL_law_560 : decode cL_law 560 = .ok (.invokevirtual 82, 3) := by decide +kernel
theorem dL_law_563 : decode cL_law 563 = .ok (.if_icmp .eq 199, 3) := by decide +kernel
theorem dL_law_566 : decode cL_law 566 = .ok (.iconst 0, 1) := by decide +kernel
theorem dL_law_567 : decode cL_law 567 = .ok (.ireturn, 1) := by decide +kernel
theorem dL_law_568 : decode cL_law 568 = .ok (.aload_n 1, 1) := by decide +kernel
theorem dL_law_569 : decode cL_law 569 = .ok (.invokevirtual 83, 3) := by decide +kernel
theorem dL_law_572 : decode cL_law 572 = .ok (.aload_n 2, 1) := by decide +kernel
theorem dL_law_573 : decode cL_law 573 = .ok (.invokevirtual 87, 3) := by decide +kernel
theorem dL_law_576 : decode cL_law 576 = .ok (.if_icmp .eq 186, 3) := by decide +kernel
theorem dL_law_579 : decode cL_law 579 = .ok (.iconst 0, 1) := by decide +kernel
theorem dL_law_580 : decode cL_law 580 = .ok (.ireturn, 1) := by decide +kernel
theorem dL_law_581 : decode cL_law 581 = .ok (.aload_n 1, 1) := by decide +kernel
theorem dL_law_582 : decode cL_law 582 = .ok (.aload_n 0, 1) := by decide +kernel
theorem dL_law_583 : decode cL_law 583 = .ok (.iload_n 3, 1) := by decide +kernel
theorem dL_law_584 : decode cL_law 584 = .ok (.iconst 1, 1) := by decide +kernel
theorem dL_law_585 : decode cL_law 585 = .ok (.iadd, 1) := by decide +kernel
theorem dL_law_586 : decode cL_law 586 = .ok (.iaload, 1) := by decide +kernel
theorem dL_law_587 : decode cL_law 587 = .ok (.invokevirtual 88, 3) := by decide +kernel
theorem dL_law_590 : decode cL_law 590 = .ok (.aload_n 2, 1) := by decide +kernel
theorem dL_law_591 : decode cL_law 591 = .ok (.aload_n 0, 1) := by decide +kernel
theorem dL_law_592 : decode cL_law 592 = .ok (.iload_n 3, 1) := by decide +kernel
theorem dL_law_593 : decode cL_law 593 = .ok (.iconst 1, 1) := by decide +kernel
theorem dL_law_594 : decode cL_law 594 = .ok (.iadd, 1) := by decide +kernel
theorem dL_law_595 : decode cL_law 595 = .ok (.iaload, 1) := by decide +kernel
theorem dL_law_596 : decode cL_law 596 = .ok (.invokevirtual 91, 3) := by decide +kernel
theorem dL_law_599 : decode cL_law 599 = .ok (.if_icmp .eq 163, 3) := by decide +kernel
theorem dL_law_602 : decode cL_law 602 = .ok (.iconst 0, 1) := by decide +kernel
theorem dL_law_603 : decode cL_law 603 = .ok (.ireturn, 1) := by decide +kernel
theorem dL_law_604 : decode cL_law 604 = .ok (.aload_n 1, 1) := by decide +kernel
theorem dL_law_605 : decode cL_law 605 = .ok (.aload_n 0, 1) := by decide +kernel
theorem dL_law_606 : decode cL_law 606 = .ok (.iload_n 3, 1) := by decide +kernel
theorem dL_law_607 : decode cL_law 607 = .ok (.iconst 1, 1) := by decide +kernel
theorem dL_law_608 : decode cL_law 608 = .ok (.iadd, 1) := by decide +kernel
theorem dL_law_609 : decode cL_law 609 = .ok (.iaload, 1) := by decide +kernel
theorem dL_law_610 : decode cL_law 610 = .ok (.invokevirtual 92, 3) := by decide +kernel
theorem dL_law_613 : decode cL_law 613 = .ok (.aload_n 2, 1) := by decide +kernel
theorem dL_law_614 : decode cL_law 614 = .ok (.aload_n 0, 1) := by decide +kernel
theorem dL_law_615 : decode cL_law 615 = .ok (.iload_n 3, 1) := by decide +kernel
theorem dL_law_616 : decode cL_law 616 = .ok (.iconst 1, 1) := by decide +kernel
theorem dL_law_617 : decode cL_law 617 = .ok (.iadd, 1) := by decide +kernel
theorem dL_law_618 : decode cL_law 618 = .ok (.iaload, 1) := by decide +kernel
theorem dL_law_619 : decode cL_law 619 = .ok (.invokevirtual 95, 3) := by decide +kernel
theorem dL_law_622 : decode cL_law 622 = .ok (.if_icmp .eq 140, 3) := by decide +kernel
theorem dL_law_625 : decode cL_law 625 = .ok (.iconst 0, 1) := by decide +kernel
theorem dL_law_626 : decode cL_law 626 = .ok (.ireturn, 1) := by decide +kernel
theorem dL_law_627 : decode cL_law 627 = .ok (.aload_n 1, 1) := by decide +kernel
theorem dL_law_628 : decode cL_law 628 = .ok (.aload_n 0, 1) := by decide +kernel
theorem dL_law_629 : decode cL_law 629 = .ok (.iload_n 3, 1) := by decide +kernel
theorem dL_law_630 : decode cL_law 630 = .ok (.iconst 1, 1) := by decide +kernel
theorem dL_law_631 : decode cL_law 631 = .ok (.iadd, 1) := by decide +kernel
theorem dL_law_632 : decode cL_law 632 = .ok (.iaload, 1) := by decide +kernel
theorem dL_law_633 : decode cL_law 633 = .ok (.aload_n 0, 1) := by decide +kernel
theorem dL_law_634 : decode cL_law 634 = .ok (.iload_n 3, 1) := by decide +kernel
theorem dL_law_635 : decode cL_law 635 = .ok (.iconst 2, 1) := by decide +kernel
theorem dL_law_636 : decode cL_law 636 = .ok (.iadd, 1) := by decide +kernel
theorem dL_law_637 : decode cL_law 637 = .ok (.iaload, 1) := by decide +kernel
theorem dL_law_638 : decode cL_law 638 = .ok (.invokevirtual 96, 3) := by decide +kernel
theorem dL_law_641 : decode cL_law 641 = .ok (.aload_n 2, 1) := by decide +kernel
theorem dL_law_642 : decode cL_law 642 = .ok (.aload_n 0, 1) := by decide +kernel
theorem dL_law_643 : decode cL_law 643 = .ok (.iload_n 3, 1) := by decide +kernel
theorem dL_law_644 : decode cL_law 644 = .ok (.iconst 1, 1) := by decide +kernel
theorem dL_law_645 : decode cL_law 645 = .ok (.iadd, 1) := by decide +kernel
theorem dL_law_646 : decode cL_law 646 = .ok (.iaload, 1) := by decide +kernel
theorem dL_law_647 : decode cL_law 647 = .ok (.aload_n 0, 1) := by decide +kernel
theorem dL_law_648 : decode cL_law 648 = .ok (.iload_n 3, 1) := by decide +kernel
theorem dL_law_649 : decode cL_law 649 = .ok (.iconst 2, 1) := by decide +kernel
theorem dL_law_650 : decode cL_law 650 = .ok (.iadd, 1) := by decide +kernel
theorem dL_law_651 : decode cL_law 651 = .ok (.iaload, 1) := by decide +kernel
theorem dL_law_652 : decode cL_law 652 = .ok (.invokevirtual 99, 3) := by decide +kernel
theorem dL_law_655 : decode cL_law 655 = .ok (.if_icmp .eq 107, 3) := by decide +kernel
theorem dL_law_658 : decode cL_law 658 = .ok (.iconst 0, 1) := by decide +kernel
theorem dL_law_659 : decode cL_law 659 = .ok (.ireturn, 1) := by decide +kernel
theorem dL_law_660 : decode cL_law 660 = .ok (.aload_n 1, 1) := by decide +kernel
theorem dL_law_661 : decode cL_law 661 = .ok (.aload_n 0, 1) := by decide +kernel
theorem dL_law_662 : decode cL_law 662 = .ok (.iload_n 3, 1) := by decide +kernel
theorem dL_law_663 : decode cL_law 663 = .ok (.iconst 1, 1) := by decide +kernel
theorem dL_law_664 : decode cL_law 664 = .ok (.iadd, 1) := by decide +kernel
theorem dL_law_665 : decode cL_law 665 = .ok (.iaload, 1) := by decide +kernel
theorem dL_law_666 : decode cL_law 666 = .ok (.invokevirtual 100, 3) := by decide +kernel
theorem dL_law_669 : decode cL_law 669 = .ok (.aload_n 2, 1) := by decide +kernel
theorem dL_law_670 : decode cL_law 670 = .ok (.aload_n 0, 1) := by decide +kernel
theorem dL_law_671 : decode cL_law 671 = .ok (.iload_n 3, 1) := by decide +kernel
theorem dL_law_672 : decode cL_law 672 = .ok (.iconst 1, 1) := by decide +kernel
theorem dL_law_673 : decode cL_law 673 = .ok (.iadd, 1) := by decide +kernel
theorem dL_law_674 : decode cL_law 674 = .ok (.iaload, 1) := by decide +kernel
theorem dL_law_675 : decode cL_law 675 = .ok (.invokevirtual 103, 3) := by decide +kernel
theorem dL_law_678 : decode cL_law 678 = .ok (.if_icmp .eq 84, 3) := by decide +kernel
theorem dL_law_681 : decode cL_law 681 = .ok (.iconst 0, 1) := by decide +kernel
theorem dL_law_682 : decode cL_law 682 = .ok (.ireturn, 1) := by decide +kernel
theorem dL_law_683 : decode cL_law 683 = .ok (.aload_n 1, 1) := by decide +kernel
theorem dL_law_684 : decode cL_law 684 = .ok (.invokevirtual 104, 3) := by decide +kernel
theorem dL_law_687 : decode cL_law 687 = .ok (.aload_n 2, 1) := by decide +kernel
theorem dL_law_688 : decode cL_law 688 = .ok (.invokevirtual 107, 3) := by decide +kernel
theorem dL_law_691 : decode cL_law 691 = .ok (.if_icmp .eq 71, 3) := by decide +kernel
theorem dL_law_694 : decode cL_law 694 = .ok (.iconst 0, 1) := by decide +kernel
theorem dL_law_695 : decode cL_law 695 = .ok (.ireturn, 1) := by decide +kernel
theorem dL_law_696 : decode cL_law 696 = .ok (.aload_n 1, 1) := by decide +kernel
theorem dL_law_697 : decode cL_law 697 = .ok (.aload_n 0, 1) := by decide +kernel
theorem dL_law_698 : decode cL_law 698 = .ok (.iload_n 3, 1) := by decide +kernel
theorem dL_law_699 : decode cL_law 699 = .ok (.iconst 1, 1) := by decide +kernel
theorem dL_law_700 : decode cL_law 700 = .ok (.iadd, 1) := by decide +kernel
theorem dL_law_701 : decode cL_law 701 = .ok (.iaload, 1) := by decide +kernel
theorem dL_law_702 : decode cL_law 702 = .ok (.aload_n 0, 1) := by decide +kernel
theorem dL_law_703 : decode cL_law 703 = .ok (.iload_n 3, 1) := by decide +kernel
theorem dL_law_704 : decode cL_law 704 = .ok (.iconst 2, 1) := by decide +kernel
theorem dL_law_705 : decode cL_law 705 = .ok (.iadd, 1) := by decide +kernel
theorem dL_law_706 : decode cL_law 706 = .ok (.iaload, 1) := by decide +kernel
theorem dL_law_707 : decode cL_law 707 = .ok (.invokevirtual 108, 3) := by decide +kernel
theorem dL_law_710 : decode cL_law 710 = .ok (.aload_n 2, 1) := by decide +kernel
theorem dL_law_711 : decode cL_law 711 = .ok (.aload_n 0, 1) := by decide +kernel
theorem dL_law_712 : decode cL_law 712 = .ok (.iload_n 3, 1) := by decide +kernel
theorem dL_law_713 : decode cL_law 713 = .ok (.iconst 1, 1) := by decide +kernel
theorem dL_law_714 : decode cL_law 714 = .ok (.iadd, 1) := by decide +kernel
theorem dL_law_715 : decode cL_law 715 = .ok (.iaload, 1) := by decide +kernel
theorem dL_law_716 : decode cL_law 716 = .ok (.aload_n 0, 1) := by decide +kernel
theorem dL_law_717 : decode cL_law 717 = .ok (.iload_n 3, 1) := by decide +kernel
theorem dL_law_718 : decode cL_law 718 = .ok (.iconst 2, 1) := by decide +kernel
theorem dL_law_719 : decode cL_law 719 = .ok (.iadd, 1) := by decide +kernel
theorem dL_law_720 : decode cL_law 720 = .ok (.iaload, 1) := by decide +kernel
theorem dL_law_721 : decode cL_law 721 = .ok (.invokevirtual 111, 3) := by decide +kernel
theorem dL_law_724 : decode cL_law 724 = .ok (.if_icmp .eq 38, 3) := by decide +kernel
theorem dL_law_727 : decode cL_law 727 = .ok (.iconst 0, 1) := by decide +kernel
theorem dL_law_728 : decode cL_law 728 = .ok (.ireturn, 1) := by decide +kernel
theorem dL_law_729 : decode cL_law 729 = .ok (.aload_n 1, 1) := by decide +kernel
theorem dL_law_730 : decode cL_law 730 = .ok (.aload_n 0, 1) := by decide +kernel
theorem dL_law_731 : decode cL_law 731 = .ok (.iload_n 3, 1) := by decide +kernel
theorem dL_law_732 : decode cL_law 732 = .ok (.iconst 1, 1) := by decide +kernel
theorem dL_law_733 : decode cL_law 733 = .ok (.iadd, 1) := by decide +kernel
theorem dL_law_734 : decode cL_law 734 = .ok (.iaload, 1) := by decide +kernel
theorem dL_law_735 : decode cL_law 735 = .ok (.aload_n 0, 1) := by decide +kernel
theorem dL_law_736 : decode cL_law 736 = .ok (.iload_n 3, 1) := by decide +kernel
theorem dL_law_737 : decode cL_law 737 = .ok (.iconst 2, 1) := by decide +kernel
theorem dL_law_738 : decode cL_law 738 = .ok (.iadd, 1) := by decide +kernel
theorem dL_law_739 : decode cL_law 739 = .ok (.iaload, 1) := by decide +kernel
theorem dL_law_740 : decode cL_law 740 = .ok (.invokevirtual 112, 3) := by decide +kernel
theorem dL_law_743 : decode cL_law 743 = .ok (.aload_n 2, 1) := by decide +kernel
theorem dL_law_744 : decode cL_law 744 = .ok (.aload_n 0, 1) := by decide +kernel
theorem dL_law_745 : decode cL_law 745 = .ok (.iload_n 3, 1) := by decide +kernel
theorem dL_law_746 : decode cL_law 746 = .ok (.iconst 1, 1) := by decide +kernel
theorem dL_law_747 : decode cL_law 747 = .ok (.iadd, 1) := by decide +kernel
theorem dL_law_748 : decode cL_law 748 = .ok (.iaload, 1) := by decide +kernel
theorem dL_law_749 : decode cL_law 749 = .ok (.aload_n 0, 1) := by decide +kernel
theorem dL_law_750 : decode cL_law 750 = .ok (.iload_n 3, 1) := by decide +kernel
theorem dL_law_751 : decode cL_law 751 = .ok (.iconst 2, 1) := by decide +kernel
theorem dL_law_752 : decode cL_law 752 = .ok (.iadd, 1) := by decide +kernel
theorem dL_law_753 : decode cL_law 753 = .ok (.iaload, 1) := by decide +kernel
theorem dL_law_754 : decode cL_law 754 = .ok (.invokevirtual 115, 3) := by decide +kernel
theorem dL_law_757 : decode cL_law 757 = .ok (.if_icmp .eq 5, 3) := by decide +kernel
theorem dL_law_760 : decode cL_law 760 = .ok (.iconst 0, 1) := by decide +kernel
theorem dL_law_761 : decode cL_law 761 = .ok (.ireturn, 1) := by decide +kernel
theorem dL_law_762 : decode cL_law 762 = .ok (.iinc 3 3, 3) := by decide +kernel
theorem dL_law_765 : decode cL_law 765 = .ok (.goto (-747), 3) := by decide +kernel
theorem dL_law_768 : decode cL_law 768 = .ok (.iconst 1, 1) := by decide +kernel
theorem dL_law_769 : decode cL_law 769 = .ok (.ireturn, 1) := by decide +kernel
set_option maxRecDepth 20000 in
set_option maxHeartbeats 4000000 in
theorem lw_w0 {Γ : GT} {a b : Nat → Nat} {q : Nat → ClassId} {sc L j : Nat} {xs : Nat → Int32} {N : lwN} (g : gd Γ code RL 4 room_1 q) (gs : gS Γ sc L xs) (hv1 : vp_in (nI (3 * j) + 1) L) (hv2 : vp_in (nI (3 * j) + 2) L) (hX : ∀ (sz : Int32) (pr : Nat → Int32) (pm : Nat → Nat) (kv : Nat → Int32) (kn : Nat → Int32) (kr : Nat → Int32) (kt : Nat → Int32) (kb : Nat → Int32) (ks : Nat → Int32) (kj : Nat → Int32) (kw : Nat → Int32) (kg : Nat → Int32) (wd : Nat → Nat → Int64) (fw : Nat → Nat → Int32) (ad : Nat → Int32) (bk : Nat → Int32) (md : Int32) (cr : Int32) (ow : Int32) (hd : Int32) (mtd : Int32) (mnk : Int32) (mva : Nat → Int32) (mno : Nat → Int32) (mro : Nat → Int32) (mtu : Nat → Int32) (mbx : Nat → Int32) (mst : Nat → Int32) (mja : Nat → Int32) (mpr : Nat → Int32) (mcr : Int32) (mow : Int32) (mhd : Int32) (mmo : Int32) (mbk : Nat → Int32) (mca : Nat → Int32) (mfr : Nat → Int32) (mrs : Int32) (mrk : Nat → Int32) (mfe : Nat → Int32) (mus : Nat → Int32) (mgi : Nat → Int32) (maj : Nat → Int32), N sz pr pm kv kn kr kt kb ks kj kw kg wd fw ad bk md cr ow hd mtd mnk mva mno mro mtu mbx mst mja mpr mcr mow mhd mmo mbk mca mfr mrs mrk mfe mus mgi maj → jw Γ 4 53 15332 (cgW a q sz pr pm kv kn kr kt kb ks kj kw kg wd fw ad bk md cr ow hd ++ mdW b q mtd mnk mva mno mro mtu mbx mst mja mpr mcr mow mhd mmo mbk mca mfr mrs mrk mfe mus mgi maj) [(0, .ref sc), (1, .ref (a 0)), (2, .ref (b 0)), (3, .int (nI (3 * j)))] [] 762) {sz : Int32} {pr : Nat → Int32} {pm : Nat → Nat} {kv : Nat → Int32} {kn : Nat → Int32} {kr : Nat → Int32} {kt : Nat → Int32} {kb : Nat → Int32} {ks : Nat → Int32} {kj : Nat → Int32} {kw : Nat → Int32} {kg : Nat → Int32} {wd : Nat → Nat → Int64} {fw : Nat → Nat → Int32} {ad : Nat → Int32} {bk : Nat → Int32} {md : Int32} {cr : Int32} {ow : Int32} {hd : Int32} {mtd : Int32} {mnk : Int32} {mva : Nat → Int32} {mno : Nat → Int32} {mro : Nat → Int32} {mtu : Nat → Int32} {mbx : Nat → Int32} {mst : Nat → Int32} {mja : Nat → Int32} {mpr : Nat → Int32} {mcr : Int32} {mow : Int32} {mhd : Int32} {mmo : Int32} {mbk : Nat → Int32} {mca : Nat → Int32} {mfr : Nat → Int32} {mrs : Int32} {mrk : Nat → Int32} {mfe : Nat → Int32} {mus : Nat → Int32} {mgi : Nat → Int32} {maj : Nat → Int32} (h : lw_c0 (xs (nI (3 * j) + 1).toNatClampNeg) (xs (nI (3 * j) + 2).toNatClampNeg) sz pr pm kv kn kr kt kb ks kj kw kg wd fw ad bk md cr ow hd mtd mnk mva mno mro mtu mbx mst mja mpr mcr mow mhd mmo mbk mca mfr mrs mrk mfe mus mgi maj N) : jw Γ 4 53 15332 (cgW a q sz pr pm kv kn kr kt kb ks kj kw kg wd fw ad bk md cr ow hd ++ mdW b q mtd mnk mva mno mro mtu mbx mst mja mpr mcr mow mhd mmo mbk mca mfr mrs mrk mfe mus mgi maj) [(0, .ref sc), (1, .ref (a 0)), (2, .ref (b 0)), (3, .int (nI (3 * j)))] [] 144 := by
  unfold lw_c0 at h
  refine j_aload_n g 1 rfl dL_law_144 ?_
  refine j_aload_n g 0 rfl dL_law_145 ?_
  refine j_iload_n g 3 rfl dL_law_146 ?_
  refine j_iconst g (v := 1) (by decide) dL_law_147 ?_
  refine j_iadd g dL_law_148 ?_
  refine j_sld g gs hv1 dL_law_149 ?_
  refine j_aload_n g 0 rfl dL_law_150 ?_
  refine j_iload_n g 3 rfl dL_law_151 ?_
  refine j_iconst g (v := 2) (by decide) dL_law_152 ?_
  refine j_iadd g dL_law_153 ?_
  refine j_sld g gs hv2 dL_law_154 ?_
  refine j_fLI_5 g (As := [.int (xs ((nI (3 * j)) + (1 : Int32)).toNatClampNeg), .int (xs ((nI (3 * j)) + (2 : Int32)).toNatClampNeg)]) (st := []) (c_X5_coin h) cl_L_13 0 5 cg_0 rfl rfl (Nat.le_of_ble_eq_true rfl) (Nat.le_of_ble_eq_true rfl) (Nat.le_of_ble_eq_true rfl) (Nat.le_of_ble_eq_true rfl) rfl rfl (Nat.le_of_ble_eq_true rfl) dL_law_155 (fun r1 sz' pm' kv' kn' kr' h => ?_)
  refine j_ws (ws' := (cgW a q sz' pr pm' kv' kn' kr' kt kb ks kj kw kg wd fw ad bk md cr ow hd ++ mdW b q mtd mnk mva mno mro mtu mbx mst mja mpr mcr mow mhd mmo mbk mca mfr mrs mrk mfe mus mgi maj)) rfl ?_
  refine j_aload_n g 2 rfl dL_law_158 ?_
  refine j_aload_n g 0 rfl dL_law_159 ?_
  refine j_iload_n g 3 rfl dL_law_160 ?_
  refine j_iconst g (v := 1) (by decide) dL_law_161 ?_
  refine j_iadd g dL_law_162 ?_
  refine j_sld g gs hv1 dL_law_163 ?_
  refine j_aload_n g 0 rfl dL_law_164 ?_
  refine j_iload_n g 3 rfl dL_law_165 ?_
  refine j_iconst g (v := 2) (by decide) dL_law_166 ?_
  refine j_iadd g dL_law_167 ?_
  refine j_sld g gs hv2 dL_law_168 ?_
  refine j_fRI_4 g (As := [.int (xs ((nI (3 * j)) + (1 : Int32)).toNatClampNeg), .int (xs ((nI (3 * j)) + (2 : Int32)).toNatClampNeg)]) (st := [.int r1]) (c_X6_coin h) cl_L_17 0 6 md_0 rfl rfl (Nat.le_of_ble_eq_true rfl) (Nat.le_of_ble_eq_true rfl) (Nat.le_of_ble_eq_true rfl) (Nat.le_of_ble_eq_true rfl) rfl rfl (Nat.le_of_ble_eq_true rfl) dL_law_169 (fun r2 mtd' mnk' mva' mro' h => ?_)
  refine j_ws (ws' := (cgW a q sz' pr pm' kv' kn' kr' kt kb ks kj kw kg wd fw ad bk md cr ow hd ++ mdW b q mtd' mnk' mva' mno mro' mtu mbx mst mja mpr mcr mow mhd mmo mbk mca mfr mrs mrk mfe mus mgi maj)) rfl ?_
  refine j_icmp_eq g dL_law_172 (tgt := 762) (by decide) (fun _ => ?_) (fun c => absurd h.1 c)
  exact hX sz' pr pm' kv' kn' kr' kt kb ks kj kw kg wd fw ad bk md cr ow hd mtd' mnk' mva' mno mro' mtu mbx mst mja mpr mcr mow mhd mmo mbk mca mfr mrs mrk mfe mus mgi maj h.2
set_option maxRecDepth 20000 in
set_option maxHeartbeats 4000000 in
theorem lw_w1 {Γ : GT} {a b : Nat → Nat} {q : Nat → ClassId} {sc L j : Nat} {xs : Nat → Int32} {N : lwN} (g : gd Γ code RL 4 room_1 q) (gs : gS Γ sc L xs) (hv1 : vp_in (nI (3 * j) + 1) L) (hv2 : vp_in (nI (3 * j) + 2) L) (hX : ∀ (sz : Int32) (pr : Nat → Int32) (pm : Nat → Nat) (kv : Nat → Int32) (kn : Nat → Int32) (kr : Nat → Int32) (kt : Nat → Int32) (kb : Nat → Int32) (ks : Nat → Int32) (kj : Nat → Int32) (kw : Nat → Int32) (kg : Nat → Int32) (wd : Nat → Nat → Int64) (fw : Nat → Nat → Int32) (ad : Nat → Int32) (bk : Nat → Int32) (md : Int32) (cr : Int32) (ow : Int32) (hd : Int32) (mtd : Int32) (mnk : Int32) (mva : Nat → Int32) (mno : Nat → Int32) (mro : Nat → Int32) (mtu : Nat → Int32) (mbx : Nat → Int32) (mst : Nat → Int32) (mja : Nat → Int32) (mpr : Nat → Int32) (mcr : Int32) (mow : Int32) (mhd : Int32) (mmo : Int32) (mbk : Nat → Int32) (mca : Nat → Int32) (mfr : Nat → Int32) (mrs : Int32) (mrk : Nat → Int32) (mfe : Nat → Int32) (mus : Nat → Int32) (mgi : Nat → Int32) (maj : Nat → Int32), N sz pr pm kv kn kr kt kb ks kj kw kg wd fw ad bk md cr ow hd mtd mnk mva mno mro mtu mbx mst mja mpr mcr mow mhd mmo mbk mca mfr mrs mrk mfe mus mgi maj → jw Γ 4 53 15332 (cgW a q sz pr pm kv kn kr kt kb ks kj kw kg wd fw ad bk md cr ow hd ++ mdW b q mtd mnk mva mno mro mtu mbx mst mja mpr mcr mow mhd mmo mbk mca mfr mrs mrk mfe mus mgi maj) [(0, .ref sc), (1, .ref (a 0)), (2, .ref (b 0)), (3, .int (nI (3 * j)))] [] 762) {sz : Int32} {pr : Nat → Int32} {pm : Nat → Nat} {kv : Nat → Int32} {kn : Nat → Int32} {kr : Nat → Int32} {kt : Nat → Int32} {kb : Nat → Int32} {ks : Nat → Int32} {kj : Nat → Int32} {kw : Nat → Int32} {kg : Nat → Int32} {wd : Nat → Nat → Int64} {fw : Nat → Nat → Int32} {ad : Nat → Int32} {bk : Nat → Int32} {md : Int32} {cr : Int32} {ow : Int32} {hd : Int32} {mtd : Int32} {mnk : Int32} {mva : Nat → Int32} {mno : Nat → Int32} {mro : Nat → Int32} {mtu : Nat → Int32} {mbx : Nat → Int32} {mst : Nat → Int32} {mja : Nat → Int32} {mpr : Nat → Int32} {mcr : Int32} {mow : Int32} {mhd : Int32} {mmo : Int32} {mbk : Nat → Int32} {mca : Nat → Int32} {mfr : Nat → Int32} {mrs : Int32} {mrk : Nat → Int32} {mfe : Nat → Int32} {mus : Nat → Int32} {mgi : Nat → Int32} {maj : Nat → Int32} (h : lw_c1 (xs (nI (3 * j) + 1).toNatClampNeg) (xs (nI (3 * j) + 2).toNatClampNeg) sz pr pm kv kn kr kt kb ks kj kw kg wd fw ad bk md cr ow hd mtd mnk mva mno mro mtu mbx mst mja mpr mcr mow mhd mmo mbk mca mfr mrs mrk mfe mus mgi maj N) : jw Γ 4 53 15332 (cgW a q sz pr pm kv kn kr kt kb ks kj kw kg wd fw ad bk md cr ow hd ++ mdW b q mtd mnk mva mno mro mtu mbx mst mja mpr mcr mow mhd mmo mbk mca mfr mrs mrk mfe mus mgi maj) [(0, .ref sc), (1, .ref (a 0)), (2, .ref (b 0)), (3, .int (nI (3 * j)))] [] 177 := by
  unfold lw_c1 at h
  refine j_aload_n g 1 rfl dL_law_177 ?_
  refine j_aload_n g 0 rfl dL_law_178 ?_
  refine j_iload_n g 3 rfl dL_law_179 ?_
  refine j_iconst g (v := 1) (by decide) dL_law_180 ?_
  refine j_iadd g dL_law_181 ?_
  refine j_sld g gs hv1 dL_law_182 ?_
  refine j_fLI_5 g (As := [.int (xs ((nI (3 * j)) + (1 : Int32)).toNatClampNeg)]) (st := []) (c_X5_note h) cl_L_18 0 5 cg_0 rfl rfl (Nat.le_of_ble_eq_true rfl) (Nat.le_of_ble_eq_true rfl) (Nat.le_of_ble_eq_true rfl) (Nat.le_of_ble_eq_true rfl) rfl rfl (Nat.le_of_ble_eq_true rfl) dL_law_183 (fun r1 sz' pm' kv' kn' kr' h => ?_)
  refine j_ws (ws' := (cgW a q sz' pr pm' kv' kn' kr' kt kb ks kj kw kg wd fw ad bk md cr ow hd ++ mdW b q mtd mnk mva mno mro mtu mbx mst mja mpr mcr mow mhd mmo mbk mca mfr mrs mrk mfe mus mgi maj)) rfl ?_
  refine j_aload_n g 2 rfl dL_law_186 ?_
  refine j_aload_n g 0 rfl dL_law_187 ?_
  refine j_iload_n g 3 rfl dL_law_188 ?_
  refine j_iconst g (v := 1) (by decide) dL_law_189 ?_
  refine j_iadd g dL_law_190 ?_
  refine j_sld g gs hv1 dL_law_191 ?_
  refine j_fRI_4 g (As := [.int (xs ((nI (3 * j)) + (1 : Int32)).toNatClampNeg)]) (st := [.int r1]) (c_X6_note h) cl_L_22 0 6 md_0 rfl rfl (Nat.le_of_ble_eq_true rfl) (Nat.le_of_ble_eq_true rfl) (Nat.le_of_ble_eq_true rfl) (Nat.le_of_ble_eq_true rfl) rfl rfl (Nat.le_of_ble_eq_true rfl) dL_law_192 (fun r2 mtd' mnk' mva' mno' h => ?_)
  refine j_ws (ws' := (cgW a q sz' pr pm' kv' kn' kr' kt kb ks kj kw kg wd fw ad bk md cr ow hd ++ mdW b q mtd' mnk' mva' mno' mro mtu mbx mst mja mpr mcr mow mhd mmo mbk mca mfr mrs mrk mfe mus mgi maj)) rfl ?_
  refine j_icmp_eq g dL_law_195 (tgt := 762) (by decide) (fun _ => ?_) (fun c => absurd h.1 c)
  exact hX sz' pr pm' kv' kn' kr' kt kb ks kj kw kg wd fw ad bk md cr ow hd mtd' mnk' mva' mno' mro mtu mbx mst mja mpr mcr mow mhd mmo mbk mca mfr mrs mrk mfe mus mgi maj h.2
set_option maxRecDepth 20000 in
set_option maxHeartbeats 4000000 in
theorem lw_w2 {Γ : GT} {a b : Nat → Nat} {q : Nat → ClassId} {sc L j : Nat} {xs : Nat → Int32} {N : lwN} (g : gd Γ code RL 4 room_1 q) (gs : gS Γ sc L xs) (hv1 : vp_in (nI (3 * j) + 1) L) (hv2 : vp_in (nI (3 * j) + 2) L) (hX : ∀ (sz : Int32) (pr : Nat → Int32) (pm : Nat → Nat) (kv : Nat → Int32) (kn : Nat → Int32) (kr : Nat → Int32) (kt : Nat → Int32) (kb : Nat → Int32) (ks : Nat → Int32) (kj : Nat → Int32) (kw : Nat → Int32) (kg : Nat → Int32) (wd : Nat → Nat → Int64) (fw : Nat → Nat → Int32) (ad : Nat → Int32) (bk : Nat → Int32) (md : Int32) (cr : Int32) (ow : Int32) (hd : Int32) (mtd : Int32) (mnk : Int32) (mva : Nat → Int32) (mno : Nat → Int32) (mro : Nat → Int32) (mtu : Nat → Int32) (mbx : Nat → Int32) (mst : Nat → Int32) (mja : Nat → Int32) (mpr : Nat → Int32) (mcr : Int32) (mow : Int32) (mhd : Int32) (mmo : Int32) (mbk : Nat → Int32) (mca : Nat → Int32) (mfr : Nat → Int32) (mrs : Int32) (mrk : Nat → Int32) (mfe : Nat → Int32) (mus : Nat → Int32) (mgi : Nat → Int32) (maj : Nat → Int32), N sz pr pm kv kn kr kt kb ks kj kw kg wd fw ad bk md cr ow hd mtd mnk mva mno mro mtu mbx mst mja mpr mcr mow mhd mmo mbk mca mfr mrs mrk mfe mus mgi maj → jw Γ 4 53 15332 (cgW a q sz pr pm kv kn kr kt kb ks kj kw kg wd fw ad bk md cr ow hd ++ mdW b q mtd mnk mva mno mro mtu mbx mst mja mpr mcr mow mhd mmo mbk mca mfr mrs mrk mfe mus mgi maj) [(0, .ref sc), (1, .ref (a 0)), (2, .ref (b 0)), (3, .int (nI (3 * j)))] [] 762) {sz : Int32} {pr : Nat → Int32} {pm : Nat → Nat} {kv : Nat → Int32} {kn : Nat → Int32} {kr : Nat → Int32} {kt : Nat → Int32} {kb : Nat → Int32} {ks : Nat → Int32} {kj : Nat → Int32} {kw : Nat → Int32} {kg : Nat → Int32} {wd : Nat → Nat → Int64} {fw : Nat → Nat → Int32} {ad : Nat → Int32} {bk : Nat → Int32} {md : Int32} {cr : Int32} {ow : Int32} {hd : Int32} {mtd : Int32} {mnk : Int32} {mva : Nat → Int32} {mno : Nat → Int32} {mro : Nat → Int32} {mtu : Nat → Int32} {mbx : Nat → Int32} {mst : Nat → Int32} {mja : Nat → Int32} {mpr : Nat → Int32} {mcr : Int32} {mow : Int32} {mhd : Int32} {mmo : Int32} {mbk : Nat → Int32} {mca : Nat → Int32} {mfr : Nat → Int32} {mrs : Int32} {mrk : Nat → Int32} {mfe : Nat → Int32} {mus : Nat → Int32} {mgi : Nat → Int32} {maj : Nat → Int32} (h : lw_c2 (xs (nI (3 * j) + 1).toNatClampNeg) (xs (nI (3 * j) + 2).toNatClampNeg) sz pr pm kv kn kr kt kb ks kj kw kg wd fw ad bk md cr ow hd mtd mnk mva mno mro mtu mbx mst mja mpr mcr mow mhd mmo mbk mca mfr mrs mrk mfe mus mgi maj N) : jw Γ 4 53 15332 (cgW a q sz pr pm kv kn kr kt kb ks kj kw kg wd fw ad bk md cr ow hd ++ mdW b q mtd mnk mva mno mro mtu mbx mst mja mpr mcr mow mhd mmo mbk mca mfr mrs mrk mfe mus mgi maj) [(0, .ref sc), (1, .ref (a 0)), (2, .ref (b 0)), (3, .int (nI (3 * j)))] [] 200 := by
  unfold lw_c2 at h
  refine j_aload_n g 1 rfl dL_law_200 ?_
  refine j_aload_n g 0 rfl dL_law_201 ?_
  refine j_iload_n g 3 rfl dL_law_202 ?_
  refine j_iconst g (v := 1) (by decide) dL_law_203 ?_
  refine j_iadd g dL_law_204 ?_
  refine j_sld g gs hv1 dL_law_205 ?_
  refine j_aload_n g 0 rfl dL_law_206 ?_
  refine j_iload_n g 3 rfl dL_law_207 ?_
  refine j_iconst g (v := 2) (by decide) dL_law_208 ?_
  refine j_iadd g dL_law_209 ?_
  refine j_sld g gs hv2 dL_law_210 ?_
  refine j_fLZ_1 g (As := [.int (xs ((nI (3 * j)) + (1 : Int32)).toNatClampNeg), .int (xs ((nI (3 * j)) + (2 : Int32)).toNatClampNeg)]) (st := []) (c_X5_price h) cl_L_23 0 5 cg_0 rfl rfl (Nat.le_of_ble_eq_true rfl) (Nat.le_of_ble_eq_true rfl) (Nat.le_of_ble_eq_true rfl) (Nat.le_of_ble_eq_true rfl) rfl rfl (Nat.le_of_ble_eq_true rfl) dL_law_211 (fun r1 pr' _ h => ?_)
  refine j_ws (ws' := (cgW a q sz pr' pm kv kn kr kt kb ks kj kw kg wd fw ad bk md cr ow hd ++ mdW b q mtd mnk mva mno mro mtu mbx mst mja mpr mcr mow mhd mmo mbk mca mfr mrs mrk mfe mus mgi maj)) rfl ?_
  refine j_aload_n g 2 rfl dL_law_214 ?_
  refine j_aload_n g 0 rfl dL_law_215 ?_
  refine j_iload_n g 3 rfl dL_law_216 ?_
  refine j_iconst g (v := 1) (by decide) dL_law_217 ?_
  refine j_iadd g dL_law_218 ?_
  refine j_sld g gs hv1 dL_law_219 ?_
  refine j_aload_n g 0 rfl dL_law_220 ?_
  refine j_iload_n g 3 rfl dL_law_221 ?_
  refine j_iconst g (v := 2) (by decide) dL_law_222 ?_
  refine j_iadd g dL_law_223 ?_
  refine j_sld g gs hv2 dL_law_224 ?_
  refine j_fRZ_2 g (As := [.int (xs ((nI (3 * j)) + (1 : Int32)).toNatClampNeg), .int (xs ((nI (3 * j)) + (2 : Int32)).toNatClampNeg)]) (st := [.int r1]) (c_X6_price h) cl_L_27 0 6 md_0 rfl rfl (Nat.le_of_ble_eq_true rfl) (Nat.le_of_ble_eq_true rfl) (Nat.le_of_ble_eq_true rfl) (Nat.le_of_ble_eq_true rfl) rfl rfl (Nat.le_of_ble_eq_true rfl) dL_law_225 (fun r2 mtd' mpr' _ h => ?_)
  refine j_ws (ws' := (cgW a q sz pr' pm kv kn kr kt kb ks kj kw kg wd fw ad bk md cr ow hd ++ mdW b q mtd' mnk mva mno mro mtu mbx mst mja mpr' mcr mow mhd mmo mbk mca mfr mrs mrk mfe mus mgi maj)) rfl ?_
  refine j_icmp_eq g dL_law_228 (tgt := 762) (by decide) (fun _ => ?_) (fun c => absurd h.1 c)
  exact hX sz pr' pm kv kn kr kt kb ks kj kw kg wd fw ad bk md cr ow hd mtd' mnk mva mno mro mtu mbx mst mja mpr' mcr mow mhd mmo mbk mca mfr mrs mrk mfe mus mgi maj h.2
set_option maxRecDepth 20000 in
set_option maxHeartbeats 4000000 in
theorem lw_w3 {Γ : GT} {a b : Nat → Nat} {q : Nat → ClassId} {sc L j : Nat} {xs : Nat → Int32} {N : lwN} (g : gd Γ code RL 4 room_1 q) (gs : gS Γ sc L xs) (hv1 : vp_in (nI (3 * j) + 1) L) (hv2 : vp_in (nI (3 * j) + 2) L) (hX : ∀ (sz : Int32) (pr : Nat → Int32) (pm : Nat → Nat) (kv : Nat → Int32) (kn : Nat → Int32) (kr : Nat → Int32) (kt : Nat → Int32) (kb : Nat → Int32) (ks : Nat → Int32) (kj : Nat → Int32) (kw : Nat → Int32) (kg : Nat → Int32) (wd : Nat → Nat → Int64) (fw : Nat → Nat → Int32) (ad : Nat → Int32) (bk : Nat → Int32) (md : Int32) (cr : Int32) (ow : Int32) (hd : Int32) (mtd : Int32) (mnk : Int32) (mva : Nat → Int32) (mno : Nat → Int32) (mro : Nat → Int32) (mtu : Nat → Int32) (mbx : Nat → Int32) (mst : Nat → Int32) (mja : Nat → Int32) (mpr : Nat → Int32) (mcr : Int32) (mow : Int32) (mhd : Int32) (mmo : Int32) (mbk : Nat → Int32) (mca : Nat → Int32) (mfr : Nat → Int32) (mrs : Int32) (mrk : Nat → Int32) (mfe : Nat → Int32) (mus : Nat → Int32) (mgi : Nat → Int32) (maj : Nat → Int32), N sz pr pm kv kn kr kt kb ks kj kw kg wd fw ad bk md cr ow hd mtd mnk mva mno mro mtu mbx mst mja mpr mcr mow mhd mmo mbk mca mfr mrs mrk mfe mus mgi maj → jw Γ 4 53 15332 (cgW a q sz pr pm kv kn kr kt kb ks kj kw kg wd fw ad bk md cr ow hd ++ mdW b q mtd mnk mva mno mro mtu mbx mst mja mpr mcr mow mhd mmo mbk mca mfr mrs mrk mfe mus mgi maj) [(0, .ref sc), (1, .ref (a 0)), (2, .ref (b 0)), (3, .int (nI (3 * j)))] [] 762) {sz : Int32} {pr : Nat → Int32} {pm : Nat → Nat} {kv : Nat → Int32} {kn : Nat → Int32} {kr : Nat → Int32} {kt : Nat → Int32} {kb : Nat → Int32} {ks : Nat → Int32} {kj : Nat → Int32} {kw : Nat → Int32} {kg : Nat → Int32} {wd : Nat → Nat → Int64} {fw : Nat → Nat → Int32} {ad : Nat → Int32} {bk : Nat → Int32} {md : Int32} {cr : Int32} {ow : Int32} {hd : Int32} {mtd : Int32} {mnk : Int32} {mva : Nat → Int32} {mno : Nat → Int32} {mro : Nat → Int32} {mtu : Nat → Int32} {mbx : Nat → Int32} {mst : Nat → Int32} {mja : Nat → Int32} {mpr : Nat → Int32} {mcr : Int32} {mow : Int32} {mhd : Int32} {mmo : Int32} {mbk : Nat → Int32} {mca : Nat → Int32} {mfr : Nat → Int32} {mrs : Int32} {mrk : Nat → Int32} {mfe : Nat → Int32} {mus : Nat → Int32} {mgi : Nat → Int32} {maj : Nat → Int32} (h : lw_c3 (xs (nI (3 * j) + 1).toNatClampNeg) (xs (nI (3 * j) + 2).toNatClampNeg) sz pr pm kv kn kr kt kb ks kj kw kg wd fw ad bk md cr ow hd mtd mnk mva mno mro mtu mbx mst mja mpr mcr mow mhd mmo mbk mca mfr mrs mrk mfe mus mgi maj N) : jw Γ 4 53 15332 (cgW a q sz pr pm kv kn kr kt kb ks kj kw kg wd fw ad bk md cr ow hd ++ mdW b q mtd mnk mva mno mro mtu mbx mst mja mpr mcr mow mhd mmo mbk mca mfr mrs mrk mfe mus mgi maj) [(0, .ref sc), (1, .ref (a 0)), (2, .ref (b 0)), (3, .int (nI (3 * j)))] [] 233 := by
  unfold lw_c3 at h
  refine j_aload_n g 1 rfl dL_law_233 ?_
  refine j_aload_n g 0 rfl dL_law_234 ?_
  refine j_iload_n g 3 rfl dL_law_235 ?_
  refine j_iconst g (v := 1) (by decide) dL_law_236 ?_
  refine j_iadd g dL_law_237 ?_
  refine j_sld g gs hv1 dL_law_238 ?_
  refine j_fLZ_1 g (As := [.int (xs ((nI (3 * j)) + (1 : Int32)).toNatClampNeg)]) (st := []) (c_X5_mode h) cl_L_28 0 5 cg_0 rfl rfl (Nat.le_of_ble_eq_true rfl) (Nat.le_of_ble_eq_true rfl) (Nat.le_of_ble_eq_true rfl) (Nat.le_of_ble_eq_true rfl) rfl rfl (Nat.le_of_ble_eq_true rfl) dL_law_239 (fun r1 md' _ h => ?_)
  refine j_ws (ws' := (cgW a q sz pr pm kv kn kr kt kb ks kj kw kg wd fw ad bk md' cr ow hd ++ mdW b q mtd mnk mva mno mro mtu mbx mst mja mpr mcr mow mhd mmo mbk mca mfr mrs mrk mfe mus mgi maj)) rfl ?_
  refine j_aload_n g 2 rfl dL_law_242 ?_
  refine j_aload_n g 0 rfl dL_law_243 ?_
  refine j_iload_n g 3 rfl dL_law_244 ?_
  refine j_iconst g (v := 1) (by decide) dL_law_245 ?_
  refine j_iadd g dL_law_246 ?_
  refine j_sld g gs hv1 dL_law_247 ?_
  refine j_fRZ_2 g (As := [.int (xs ((nI (3 * j)) + (1 : Int32)).toNatClampNeg)]) (st := [.int r1]) (c_X6_mode h) cl_L_32 0 6 md_0 rfl rfl (Nat.le_of_ble_eq_true rfl) (Nat.le_of_ble_eq_true rfl) (Nat.le_of_ble_eq_true rfl) (Nat.le_of_ble_eq_true rfl) rfl rfl (Nat.le_of_ble_eq_true rfl) dL_law_248 (fun r2 mtd' mmo' _ h => ?_)
  refine j_ws (ws' := (cgW a q sz pr pm kv kn kr kt kb ks kj kw kg wd fw ad bk md' cr ow hd ++ mdW b q mtd' mnk mva mno mro mtu mbx mst mja mpr mcr mow mhd mmo' mbk mca mfr mrs mrk mfe mus mgi maj)) rfl ?_
  refine j_icmp_eq g dL_law_251 (tgt := 762) (by decide) (fun _ => ?_) (fun c => absurd h.1 c)
  exact hX sz pr pm kv kn kr kt kb ks kj kw kg wd fw ad bk md' cr ow hd mtd' mnk mva mno mro mtu mbx mst mja mpr mcr mow mhd mmo' mbk mca mfr mrs mrk mfe mus mgi maj h.2
set_option maxRecDepth 20000 in
set_option maxHeartbeats 4000000 in
theorem lw_w4 {Γ : GT} {a b : Nat → Nat} {q : Nat → ClassId} {sc L j : Nat} {xs : Nat → Int32} {N : lwN} (g : gd Γ code RL 4 room_1 q) (gs : gS Γ sc L xs) (hv1 : vp_in (nI (3 * j) + 1) L) (hv2 : vp_in (nI (3 * j) + 2) L) (hX : ∀ (sz : Int32) (pr : Nat → Int32) (pm : Nat → Nat) (kv : Nat → Int32) (kn : Nat → Int32) (kr : Nat → Int32) (kt : Nat → Int32) (kb : Nat → Int32) (ks : Nat → Int32) (kj : Nat → Int32) (kw : Nat → Int32) (kg : Nat → Int32) (wd : Nat → Nat → Int64) (fw : Nat → Nat → Int32) (ad : Nat → Int32) (bk : Nat → Int32) (md : Int32) (cr : Int32) (ow : Int32) (hd : Int32) (mtd : Int32) (mnk : Int32) (mva : Nat → Int32) (mno : Nat → Int32) (mro : Nat → Int32) (mtu : Nat → Int32) (mbx : Nat → Int32) (mst : Nat → Int32) (mja : Nat → Int32) (mpr : Nat → Int32) (mcr : Int32) (mow : Int32) (mhd : Int32) (mmo : Int32) (mbk : Nat → Int32) (mca : Nat → Int32) (mfr : Nat → Int32) (mrs : Int32) (mrk : Nat → Int32) (mfe : Nat → Int32) (mus : Nat → Int32) (mgi : Nat → Int32) (maj : Nat → Int32), N sz pr pm kv kn kr kt kb ks kj kw kg wd fw ad bk md cr ow hd mtd mnk mva mno mro mtu mbx mst mja mpr mcr mow mhd mmo mbk mca mfr mrs mrk mfe mus mgi maj → jw Γ 4 53 15332 (cgW a q sz pr pm kv kn kr kt kb ks kj kw kg wd fw ad bk md cr ow hd ++ mdW b q mtd mnk mva mno mro mtu mbx mst mja mpr mcr mow mhd mmo mbk mca mfr mrs mrk mfe mus mgi maj) [(0, .ref sc), (1, .ref (a 0)), (2, .ref (b 0)), (3, .int (nI (3 * j)))] [] 762) {sz : Int32} {pr : Nat → Int32} {pm : Nat → Nat} {kv : Nat → Int32} {kn : Nat → Int32} {kr : Nat → Int32} {kt : Nat → Int32} {kb : Nat → Int32} {ks : Nat → Int32} {kj : Nat → Int32} {kw : Nat → Int32} {kg : Nat → Int32} {wd : Nat → Nat → Int64} {fw : Nat → Nat → Int32} {ad : Nat → Int32} {bk : Nat → Int32} {md : Int32} {cr : Int32} {ow : Int32} {hd : Int32} {mtd : Int32} {mnk : Int32} {mva : Nat → Int32} {mno : Nat → Int32} {mro : Nat → Int32} {mtu : Nat → Int32} {mbx : Nat → Int32} {mst : Nat → Int32} {mja : Nat → Int32} {mpr : Nat → Int32} {mcr : Int32} {mow : Int32} {mhd : Int32} {mmo : Int32} {mbk : Nat → Int32} {mca : Nat → Int32} {mfr : Nat → Int32} {mrs : Int32} {mrk : Nat → Int32} {mfe : Nat → Int32} {mus : Nat → Int32} {mgi : Nat → Int32} {maj : Nat → Int32} (h : lw_c4 (xs (nI (3 * j) + 1).toNatClampNeg) (xs (nI (3 * j) + 2).toNatClampNeg) sz pr pm kv kn kr kt kb ks kj kw kg wd fw ad bk md cr ow hd mtd mnk mva mno mro mtu mbx mst mja mpr mcr mow mhd mmo mbk mca mfr mrs mrk mfe mus mgi maj N) : jw Γ 4 53 15332 (cgW a q sz pr pm kv kn kr kt kb ks kj kw kg wd fw ad bk md cr ow hd ++ mdW b q mtd mnk mva mno mro mtu mbx mst mja mpr mcr mow mhd mmo mbk mca mfr mrs mrk mfe mus mgi maj) [(0, .ref sc), (1, .ref (a 0)), (2, .ref (b 0)), (3, .int (nI (3 * j)))] [] 256 := by
  unfold lw_c4 at h
  refine j_aload_n g 1 rfl dL_law_256 ?_
  refine j_aload_n g 0 rfl dL_law_257 ?_
  refine j_iload_n g 3 rfl dL_law_258 ?_
  refine j_iconst g (v := 1) (by decide) dL_law_259 ?_
  refine j_iadd g dL_law_260 ?_
  refine j_sld g gs hv1 dL_law_261 ?_
  refine j_aload_n g 0 rfl dL_law_262 ?_
  refine j_iload_n g 3 rfl dL_law_263 ?_
  refine j_iconst g (v := 2) (by decide) dL_law_264 ?_
  refine j_iadd g dL_law_265 ?_
  refine j_sld g gs hv2 dL_law_266 ?_
  refine j_fLZ_2 g (As := [.int (xs ((nI (3 * j)) + (1 : Int32)).toNatClampNeg), .int (xs ((nI (3 * j)) + (2 : Int32)).toNatClampNeg)]) (st := []) (c_X5_fill h) cl_L_33 0 5 cg_0 rfl rfl (Nat.le_of_ble_eq_true rfl) (Nat.le_of_ble_eq_true rfl) (Nat.le_of_ble_eq_true rfl) (Nat.le_of_ble_eq_true rfl) rfl rfl (Nat.le_of_ble_eq_true rfl) dL_law_267 (fun r1 kt' bk' _ h => ?_)
  refine j_ws (ws' := (cgW a q sz pr pm kv kn kr kt' kb ks kj kw kg wd fw ad bk' md cr ow hd ++ mdW b q mtd mnk mva mno mro mtu mbx mst mja mpr mcr mow mhd mmo mbk mca mfr mrs mrk mfe mus mgi maj)) rfl ?_
  refine j_aload_n g 2 rfl dL_law_270 ?_
  refine j_aload_n g 0 rfl dL_law_271 ?_
  refine j_iload_n g 3 rfl dL_law_272 ?_
  refine j_iconst g (v := 1) (by decide) dL_law_273 ?_
  refine j_iadd g dL_law_274 ?_
  refine j_sld g gs hv1 dL_law_275 ?_
  refine j_aload_n g 0 rfl dL_law_276 ?_
  refine j_iload_n g 3 rfl dL_law_277 ?_
  refine j_iconst g (v := 2) (by decide) dL_law_278 ?_
  refine j_iadd g dL_law_279 ?_
  refine j_sld g gs hv2 dL_law_280 ?_
  refine j_fRZ_3 g (As := [.int (xs ((nI (3 * j)) + (1 : Int32)).toNatClampNeg), .int (xs ((nI (3 * j)) + (2 : Int32)).toNatClampNeg)]) (st := [.int r1]) (c_X6_fill h) cl_L_36 0 6 md_0 rfl rfl (Nat.le_of_ble_eq_true rfl) (Nat.le_of_ble_eq_true rfl) (Nat.le_of_ble_eq_true rfl) (Nat.le_of_ble_eq_true rfl) rfl rfl (Nat.le_of_ble_eq_true rfl) dL_law_281 (fun r2 mtd' mtu' mbk' _ h => ?_)
  refine j_ws (ws' := (cgW a q sz pr pm kv kn kr kt' kb ks kj kw kg wd fw ad bk' md cr ow hd ++ mdW b q mtd' mnk mva mno mro mtu' mbx mst mja mpr mcr mow mhd mmo mbk' mca mfr mrs mrk mfe mus mgi maj)) rfl ?_
  refine j_icmp_eq g dL_law_284 (tgt := 762) (by decide) (fun _ => ?_) (fun c => absurd h.1 c)
  exact hX sz pr pm kv kn kr kt' kb ks kj kw kg wd fw ad bk' md cr ow hd mtd' mnk mva mno mro mtu' mbx mst mja mpr mcr mow mhd mmo mbk' mca mfr mrs mrk mfe mus mgi maj h.2
set_option maxRecDepth 20000 in
set_option maxHeartbeats 4000000 in
theorem lw_w5 {Γ : GT} {a b : Nat → Nat} {q : Nat → ClassId} {sc L j : Nat} {xs : Nat → Int32} {N : lwN} (g : gd Γ code RL 4 room_1 q) (gs : gS Γ sc L xs) (hv1 : vp_in (nI (3 * j) + 1) L) (hv2 : vp_in (nI (3 * j) + 2) L) (hX : ∀ (sz : Int32) (pr : Nat → Int32) (pm : Nat → Nat) (kv : Nat → Int32) (kn : Nat → Int32) (kr : Nat → Int32) (kt : Nat → Int32) (kb : Nat → Int32) (ks : Nat → Int32) (kj : Nat → Int32) (kw : Nat → Int32) (kg : Nat → Int32) (wd : Nat → Nat → Int64) (fw : Nat → Nat → Int32) (ad : Nat → Int32) (bk : Nat → Int32) (md : Int32) (cr : Int32) (ow : Int32) (hd : Int32) (mtd : Int32) (mnk : Int32) (mva : Nat → Int32) (mno : Nat → Int32) (mro : Nat → Int32) (mtu : Nat → Int32) (mbx : Nat → Int32) (mst : Nat → Int32) (mja : Nat → Int32) (mpr : Nat → Int32) (mcr : Int32) (mow : Int32) (mhd : Int32) (mmo : Int32) (mbk : Nat → Int32) (mca : Nat → Int32) (mfr : Nat → Int32) (mrs : Int32) (mrk : Nat → Int32) (mfe : Nat → Int32) (mus : Nat → Int32) (mgi : Nat → Int32) (maj : Nat → Int32), N sz pr pm kv kn kr kt kb ks kj kw kg wd fw ad bk md cr ow hd mtd mnk mva mno mro mtu mbx mst mja mpr mcr mow mhd mmo mbk mca mfr mrs mrk mfe mus mgi maj → jw Γ 4 53 15332 (cgW a q sz pr pm kv kn kr kt kb ks kj kw kg wd fw ad bk md cr ow hd ++ mdW b q mtd mnk mva mno mro mtu mbx mst mja mpr mcr mow mhd mmo mbk mca mfr mrs mrk mfe mus mgi maj) [(0, .ref sc), (1, .ref (a 0)), (2, .ref (b 0)), (3, .int (nI (3 * j)))] [] 762) {sz : Int32} {pr : Nat → Int32} {pm : Nat → Nat} {kv : Nat → Int32} {kn : Nat → Int32} {kr : Nat → Int32} {kt : Nat → Int32} {kb : Nat → Int32} {ks : Nat → Int32} {kj : Nat → Int32} {kw : Nat → Int32} {kg : Nat → Int32} {wd : Nat → Nat → Int64} {fw : Nat → Nat → Int32} {ad : Nat → Int32} {bk : Nat → Int32} {md : Int32} {cr : Int32} {ow : Int32} {hd : Int32} {mtd : Int32} {mnk : Int32} {mva : Nat → Int32} {mno : Nat → Int32} {mro : Nat → Int32} {mtu : Nat → Int32} {mbx : Nat → Int32} {mst : Nat → Int32} {mja : Nat → Int32} {mpr : Nat → Int32} {mcr : Int32} {mow : Int32} {mhd : Int32} {mmo : Int32} {mbk : Nat → Int32} {mca : Nat → Int32} {mfr : Nat → Int32} {mrs : Int32} {mrk : Nat → Int32} {mfe : Nat → Int32} {mus : Nat → Int32} {mgi : Nat → Int32} {maj : Nat → Int32} (h : ∀ z : Int32, (xs (nI (3 * j) + 2).toNatClampNeg = 0 ∧ z = 0) ∨ (¬ xs (nI (3 * j) + 2).toNatClampNeg = 0 ∧ z = 1) → lw_c5 (xs (nI (3 * j) + 1).toNatClampNeg) z sz pr pm kv kn kr kt kb ks kj kw kg wd fw ad bk md cr ow hd mtd mnk mva mno mro mtu mbx mst mja mpr mcr mow mhd mmo mbk mca mfr mrs mrk mfe mus mgi maj N) : jw Γ 4 53 15332 (cgW a q sz pr pm kv kn kr kt kb ks kj kw kg wd fw ad bk md cr ow hd ++ mdW b q mtd mnk mva mno mro mtu mbx mst mja mpr mcr mow mhd mmo mbk mca mfr mrs mrk mfe mus mgi maj) [(0, .ref sc), (1, .ref (a 0)), (2, .ref (b 0)), (3, .int (nI (3 * j)))] [] 289 := by
  by_cases hb : xs (nI (3 * j) + 2).toNatClampNeg = 0
  · replace h := h (0 : Int32) (Or.inl ⟨hb, rfl⟩)
    unfold lw_c5 at h
    refine j_aload_n g 1 rfl dL_law_289 ?_
    refine j_aload_n g 0 rfl dL_law_290 ?_
    refine j_iload_n g 3 rfl dL_law_291 ?_
    refine j_iconst g (v := 1) (by decide) dL_law_292 ?_
    refine j_iadd g dL_law_293 ?_
    refine j_sld g gs hv1 dL_law_294 ?_
    refine j_aload_n g 0 rfl dL_law_295 ?_
    refine j_iload_n g 3 rfl dL_law_296 ?_
    refine j_iconst g (v := 2) (by decide) dL_law_297 ?_
    refine j_iadd g dL_law_298 ?_
    refine j_sld g gs hv2 dL_law_299 ?_
    refine j_if_eq g dL_law_300 (tgt := 307) (by decide) (fun _ => ?_) (fun c => absurd hb c)
    refine j_iconst g (v := 0) (by decide) dL_law_307 ?_
    refine j_fLZ_1 g (As := [.int (xs ((nI (3 * j)) + (1 : Int32)).toNatClampNeg), .int (0 : Int32)]) (st := []) (c_X5_stuck (Or.inl rfl) h) cl_L_37 0 5 cg_0 rfl rfl (Nat.le_of_ble_eq_true rfl) (Nat.le_of_ble_eq_true rfl) (Nat.le_of_ble_eq_true rfl) (Nat.le_of_ble_eq_true rfl) rfl rfl (Nat.le_of_ble_eq_true rfl) dL_law_308 (fun r1 ks' _ h => ?_)
    refine j_ws (ws' := (cgW a q sz pr pm kv kn kr kt kb ks' kj kw kg wd fw ad bk md cr ow hd ++ mdW b q mtd mnk mva mno mro mtu mbx mst mja mpr mcr mow mhd mmo mbk mca mfr mrs mrk mfe mus mgi maj)) rfl ?_
    refine j_aload_n g 2 rfl dL_law_311 ?_
    refine j_aload_n g 0 rfl dL_law_312 ?_
    refine j_iload_n g 3 rfl dL_law_313 ?_
    refine j_iconst g (v := 1) (by decide) dL_law_314 ?_
    refine j_iadd g dL_law_315 ?_
    refine j_sld g gs hv1 dL_law_316 ?_
    refine j_aload_n g 0 rfl dL_law_317 ?_
    refine j_iload_n g 3 rfl dL_law_318 ?_
    refine j_iconst g (v := 2) (by decide) dL_law_319 ?_
    refine j_iadd g dL_law_320 ?_
    refine j_sld g gs hv2 dL_law_321 ?_
    refine j_if_eq g dL_law_322 (tgt := 329) (by decide) (fun _ => ?_) (fun c => absurd hb c)
    refine j_iconst g (v := 0) (by decide) dL_law_329 ?_
    refine j_fRZ_2 g (As := [.int (xs ((nI (3 * j)) + (1 : Int32)).toNatClampNeg), .int (0 : Int32)]) (st := [.int r1]) (c_X6_stuck (Or.inl rfl) h) cl_L_41 0 6 md_0 rfl rfl (Nat.le_of_ble_eq_true rfl) (Nat.le_of_ble_eq_true rfl) (Nat.le_of_ble_eq_true rfl) (Nat.le_of_ble_eq_true rfl) rfl rfl (Nat.le_of_ble_eq_true rfl) dL_law_330 (fun r2 mtd' mst' _ h => ?_)
    refine j_ws (ws' := (cgW a q sz pr pm kv kn kr kt kb ks' kj kw kg wd fw ad bk md cr ow hd ++ mdW b q mtd' mnk mva mno mro mtu mbx mst' mja mpr mcr mow mhd mmo mbk mca mfr mrs mrk mfe mus mgi maj)) rfl ?_
    refine j_icmp_eq g dL_law_333 (tgt := 762) (by decide) (fun _ => ?_) (fun c => absurd h.1 c)
    exact hX sz pr pm kv kn kr kt kb ks' kj kw kg wd fw ad bk md cr ow hd mtd' mnk mva mno mro mtu mbx mst' mja mpr mcr mow mhd mmo mbk mca mfr mrs mrk mfe mus mgi maj h.2
  replace h := h (1 : Int32) (Or.inr ⟨hb, rfl⟩)
  unfold lw_c5 at h
  refine j_aload_n g 1 rfl dL_law_289 ?_
  refine j_aload_n g 0 rfl dL_law_290 ?_
  refine j_iload_n g 3 rfl dL_law_291 ?_
  refine j_iconst g (v := 1) (by decide) dL_law_292 ?_
  refine j_iadd g dL_law_293 ?_
  refine j_sld g gs hv1 dL_law_294 ?_
  refine j_aload_n g 0 rfl dL_law_295 ?_
  refine j_iload_n g 3 rfl dL_law_296 ?_
  refine j_iconst g (v := 2) (by decide) dL_law_297 ?_
  refine j_iadd g dL_law_298 ?_
  refine j_sld g gs hv2 dL_law_299 ?_
  refine j_if_eq g dL_law_300 (tgt := 307) (by decide) (fun c => absurd c hb) (fun _ => ?_)
  refine j_iconst g (v := 1) (by decide) dL_law_303 ?_
  refine j_goto g dL_law_304 (tgt := 308) (by decide) ?_
  refine j_fLZ_1 g (As := [.int (xs ((nI (3 * j)) + (1 : Int32)).toNatClampNeg), .int (1 : Int32)]) (st := []) (c_X5_stuck (Or.inr rfl) h) cl_L_37 0 5 cg_0 rfl rfl (Nat.le_of_ble_eq_true rfl) (Nat.le_of_ble_eq_true rfl) (Nat.le_of_ble_eq_true rfl) (Nat.le_of_ble_eq_true rfl) rfl rfl (Nat.le_of_ble_eq_true rfl) dL_law_308 (fun r1 ks' _ h => ?_)
  refine j_ws (ws' := (cgW a q sz pr pm kv kn kr kt kb ks' kj kw kg wd fw ad bk md cr ow hd ++ mdW b q mtd mnk mva mno mro mtu mbx mst mja mpr mcr mow mhd mmo mbk mca mfr mrs mrk mfe mus mgi maj)) rfl ?_
  refine j_aload_n g 2 rfl dL_law_311 ?_
  refine j_aload_n g 0 rfl dL_law_312 ?_
  refine j_iload_n g 3 rfl dL_law_313 ?_
  refine j_iconst g (v := 1) (by decide) dL_law_314 ?_
  refine j_iadd g dL_law_315 ?_
  refine j_sld g gs hv1 dL_law_316 ?_
  refine j_aload_n g 0 rfl dL_law_317 ?_
  refine j_iload_n g 3 rfl dL_law_318 ?_
  refine j_iconst g (v := 2) (by decide) dL_law_319 ?_
  refine j_iadd g dL_law_320 ?_
  refine j_sld g gs hv2 dL_law_321 ?_
  refine j_if_eq g dL_law_322 (tgt := 329) (by decide) (fun c => absurd c hb) (fun _ => ?_)
  refine j_iconst g (v := 1) (by decide) dL_law_325 ?_
  refine j_goto g dL_law_326 (tgt := 330) (by decide) ?_
  refine j_fRZ_2 g (As := [.int (xs ((nI (3 * j)) + (1 : Int32)).toNatClampNeg), .int (1 : Int32)]) (st := [.int r1]) (c_X6_stuck (Or.inr rfl) h) cl_L_41 0 6 md_0 rfl rfl (Nat.le_of_ble_eq_true rfl) (Nat.le_of_ble_eq_true rfl) (Nat.le_of_ble_eq_true rfl) (Nat.le_of_ble_eq_true rfl) rfl rfl (Nat.le_of_ble_eq_true rfl) dL_law_330 (fun r2 mtd' mst' _ h => ?_)
  refine j_ws (ws' := (cgW a q sz pr pm kv kn kr kt kb ks' kj kw kg wd fw ad bk md cr ow hd ++ mdW b q mtd' mnk mva mno mro mtu mbx mst' mja mpr mcr mow mhd mmo mbk mca mfr mrs mrk mfe mus mgi maj)) rfl ?_
  refine j_icmp_eq g dL_law_333 (tgt := 762) (by decide) (fun _ => ?_) (fun c => absurd h.1 c)
  exact hX sz pr pm kv kn kr kt kb ks' kj kw kg wd fw ad bk md cr ow hd mtd' mnk mva mno mro mtu mbx mst' mja mpr mcr mow mhd mmo mbk mca mfr mrs mrk mfe mus mgi maj h.2
set_option maxRecDepth 20000 in
set_option maxHeartbeats 4000000 in
theorem lw_w6 {Γ : GT} {a b : Nat → Nat} {q : Nat → ClassId} {sc L j : Nat} {xs : Nat → Int32} {N : lwN} (g : gd Γ code RL 4 room_1 q) (gs : gS Γ sc L xs) (hv1 : vp_in (nI (3 * j) + 1) L) (hv2 : vp_in (nI (3 * j) + 2) L) (hX : ∀ (sz : Int32) (pr : Nat → Int32) (pm : Nat → Nat) (kv : Nat → Int32) (kn : Nat → Int32) (kr : Nat → Int32) (kt : Nat → Int32) (kb : Nat → Int32) (ks : Nat → Int32) (kj : Nat → Int32) (kw : Nat → Int32) (kg : Nat → Int32) (wd : Nat → Nat → Int64) (fw : Nat → Nat → Int32) (ad : Nat → Int32) (bk : Nat → Int32) (md : Int32) (cr : Int32) (ow : Int32) (hd : Int32) (mtd : Int32) (mnk : Int32) (mva : Nat → Int32) (mno : Nat → Int32) (mro : Nat → Int32) (mtu : Nat → Int32) (mbx : Nat → Int32) (mst : Nat → Int32) (mja : Nat → Int32) (mpr : Nat → Int32) (mcr : Int32) (mow : Int32) (mhd : Int32) (mmo : Int32) (mbk : Nat → Int32) (mca : Nat → Int32) (mfr : Nat → Int32) (mrs : Int32) (mrk : Nat → Int32) (mfe : Nat → Int32) (mus : Nat → Int32) (mgi : Nat → Int32) (maj : Nat → Int32), N sz pr pm kv kn kr kt kb ks kj kw kg wd fw ad bk md cr ow hd mtd mnk mva mno mro mtu mbx mst mja mpr mcr mow mhd mmo mbk mca mfr mrs mrk mfe mus mgi maj → jw Γ 4 53 15332 (cgW a q sz pr pm kv kn kr kt kb ks kj kw kg wd fw ad bk md cr ow hd ++ mdW b q mtd mnk mva mno mro mtu mbx mst mja mpr mcr mow mhd mmo mbk mca mfr mrs mrk mfe mus mgi maj) [(0, .ref sc), (1, .ref (a 0)), (2, .ref (b 0)), (3, .int (nI (3 * j)))] [] 762) {sz : Int32} {pr : Nat → Int32} {pm : Nat → Nat} {kv : Nat → Int32} {kn : Nat → Int32} {kr : Nat → Int32} {kt : Nat → Int32} {kb : Nat → Int32} {ks : Nat → Int32} {kj : Nat → Int32} {kw : Nat → Int32} {kg : Nat → Int32} {wd : Nat → Nat → Int64} {fw : Nat → Nat → Int32} {ad : Nat → Int32} {bk : Nat → Int32} {md : Int32} {cr : Int32} {ow : Int32} {hd : Int32} {mtd : Int32} {mnk : Int32} {mva : Nat → Int32} {mno : Nat → Int32} {mro : Nat → Int32} {mtu : Nat → Int32} {mbx : Nat → Int32} {mst : Nat → Int32} {mja : Nat → Int32} {mpr : Nat → Int32} {mcr : Int32} {mow : Int32} {mhd : Int32} {mmo : Int32} {mbk : Nat → Int32} {mca : Nat → Int32} {mfr : Nat → Int32} {mrs : Int32} {mrk : Nat → Int32} {mfe : Nat → Int32} {mus : Nat → Int32} {mgi : Nat → Int32} {maj : Nat → Int32} (h : lw_c6 (xs (nI (3 * j) + 1).toNatClampNeg) (xs (nI (3 * j) + 2).toNatClampNeg) sz pr pm kv kn kr kt kb ks kj kw kg wd fw ad bk md cr ow hd mtd mnk mva mno mro mtu mbx mst mja mpr mcr mow mhd mmo mbk mca mfr mrs mrk mfe mus mgi maj N) : jw Γ 4 53 15332 (cgW a q sz pr pm kv kn kr kt kb ks kj kw kg wd fw ad bk md cr ow hd ++ mdW b q mtd mnk mva mno mro mtu mbx mst mja mpr mcr mow mhd mmo mbk mca mfr mrs mrk mfe mus mgi maj) [(0, .ref sc), (1, .ref (a 0)), (2, .ref (b 0)), (3, .int (nI (3 * j)))] [] 338 := by
  unfold lw_c6 at h
  refine j_aload_n g 1 rfl dL_law_338 ?_
  refine j_aload_n g 0 rfl dL_law_339 ?_
  refine j_iload_n g 3 rfl dL_law_340 ?_
  refine j_iconst g (v := 1) (by decide) dL_law_341 ?_
  refine j_iadd g dL_law_342 ?_
  refine j_sld g gs hv1 dL_law_343 ?_
  refine j_aload_n g 0 rfl dL_law_344 ?_
  refine j_iload_n g 3 rfl dL_law_345 ?_
  refine j_iconst g (v := 2) (by decide) dL_law_346 ?_
  refine j_iadd g dL_law_347 ?_
  refine j_sld g gs hv2 dL_law_348 ?_
  refine j_fLZ_1 g (As := [.int (xs ((nI (3 * j)) + (1 : Int32)).toNatClampNeg), .int (xs ((nI (3 * j)) + (2 : Int32)).toNatClampNeg)]) (st := []) (c_X5_jam h) cl_L_42 0 5 cg_0 rfl rfl (Nat.le_of_ble_eq_true rfl) (Nat.le_of_ble_eq_true rfl) (Nat.le_of_ble_eq_true rfl) (Nat.le_of_ble_eq_true rfl) rfl rfl (Nat.le_of_ble_eq_true rfl) dL_law_349 (fun r1 kj' _ h => ?_)
  refine j_ws (ws' := (cgW a q sz pr pm kv kn kr kt kb ks kj' kw kg wd fw ad bk md cr ow hd ++ mdW b q mtd mnk mva mno mro mtu mbx mst mja mpr mcr mow mhd mmo mbk mca mfr mrs mrk mfe mus mgi maj)) rfl ?_
  refine j_aload_n g 2 rfl dL_law_352 ?_
  refine j_aload_n g 0 rfl dL_law_353 ?_
  refine j_iload_n g 3 rfl dL_law_354 ?_
  refine j_iconst g (v := 1) (by decide) dL_law_355 ?_
  refine j_iadd g dL_law_356 ?_
  refine j_sld g gs hv1 dL_law_357 ?_
  refine j_aload_n g 0 rfl dL_law_358 ?_
  refine j_iload_n g 3 rfl dL_law_359 ?_
  refine j_iconst g (v := 2) (by decide) dL_law_360 ?_
  refine j_iadd g dL_law_361 ?_
  refine j_sld g gs hv2 dL_law_362 ?_
  refine j_fRZ_2 g (As := [.int (xs ((nI (3 * j)) + (1 : Int32)).toNatClampNeg), .int (xs ((nI (3 * j)) + (2 : Int32)).toNatClampNeg)]) (st := [.int r1]) (c_X6_jam h) cl_L_45 0 6 md_0 rfl rfl (Nat.le_of_ble_eq_true rfl) (Nat.le_of_ble_eq_true rfl) (Nat.le_of_ble_eq_true rfl) (Nat.le_of_ble_eq_true rfl) rfl rfl (Nat.le_of_ble_eq_true rfl) dL_law_363 (fun r2 mtd' mja' _ h => ?_)
  refine j_ws (ws' := (cgW a q sz pr pm kv kn kr kt kb ks kj' kw kg wd fw ad bk md cr ow hd ++ mdW b q mtd' mnk mva mno mro mtu mbx mst mja' mpr mcr mow mhd mmo mbk mca mfr mrs mrk mfe mus mgi maj)) rfl ?_
  refine j_icmp_eq g dL_law_366 (tgt := 762) (by decide) (fun _ => ?_) (fun c => absurd h.1 c)
  exact hX sz pr pm kv kn kr kt kb ks kj' kw kg wd fw ad bk md cr ow hd mtd' mnk mva mno mro mtu mbx mst mja' mpr mcr mow mhd mmo mbk mca mfr mrs mrk mfe mus mgi maj h.2
set_option maxRecDepth 20000 in
set_option maxHeartbeats 4000000 in
theorem lw_w7 {Γ : GT} {a b : Nat → Nat} {q : Nat → ClassId} {sc L j : Nat} {xs : Nat → Int32} {N : lwN} (g : gd Γ code RL 4 room_1 q) (gs : gS Γ sc L xs) (hv1 : vp_in (nI (3 * j) + 1) L) (hv2 : vp_in (nI (3 * j) + 2) L) (hX : ∀ (sz : Int32) (pr : Nat → Int32) (pm : Nat → Nat) (kv : Nat → Int32) (kn : Nat → Int32) (kr : Nat → Int32) (kt : Nat → Int32) (kb : Nat → Int32) (ks : Nat → Int32) (kj : Nat → Int32) (kw : Nat → Int32) (kg : Nat → Int32) (wd : Nat → Nat → Int64) (fw : Nat → Nat → Int32) (ad : Nat → Int32) (bk : Nat → Int32) (md : Int32) (cr : Int32) (ow : Int32) (hd : Int32) (mtd : Int32) (mnk : Int32) (mva : Nat → Int32) (mno : Nat → Int32) (mro : Nat → Int32) (mtu : Nat → Int32) (mbx : Nat → Int32) (mst : Nat → Int32) (mja : Nat → Int32) (mpr : Nat → Int32) (mcr : Int32) (mow : Int32) (mhd : Int32) (mmo : Int32) (mbk : Nat → Int32) (mca : Nat → Int32) (mfr : Nat → Int32) (mrs : Int32) (mrk : Nat → Int32) (mfe : Nat → Int32) (mus : Nat → Int32) (mgi : Nat → Int32) (maj : Nat → Int32), N sz pr pm kv kn kr kt kb ks kj kw kg wd fw ad bk md cr ow hd mtd mnk mva mno mro mtu mbx mst mja mpr mcr mow mhd mmo mbk mca mfr mrs mrk mfe mus mgi maj → jw Γ 4 53 15332 (cgW a q sz pr pm kv kn kr kt kb ks kj kw kg wd fw ad bk md cr ow hd ++ mdW b q mtd mnk mva mno mro mtu mbx mst mja mpr mcr mow mhd mmo mbk mca mfr mrs mrk mfe mus mgi maj) [(0, .ref sc), (1, .ref (a 0)), (2, .ref (b 0)), (3, .int (nI (3 * j)))] [] 762) {sz : Int32} {pr : Nat → Int32} {pm : Nat → Nat} {kv : Nat → Int32} {kn : Nat → Int32} {kr : Nat → Int32} {kt : Nat → Int32} {kb : Nat → Int32} {ks : Nat → Int32} {kj : Nat → Int32} {kw : Nat → Int32} {kg : Nat → Int32} {wd : Nat → Nat → Int64} {fw : Nat → Nat → Int32} {ad : Nat → Int32} {bk : Nat → Int32} {md : Int32} {cr : Int32} {ow : Int32} {hd : Int32} {mtd : Int32} {mnk : Int32} {mva : Nat → Int32} {mno : Nat → Int32} {mro : Nat → Int32} {mtu : Nat → Int32} {mbx : Nat → Int32} {mst : Nat → Int32} {mja : Nat → Int32} {mpr : Nat → Int32} {mcr : Int32} {mow : Int32} {mhd : Int32} {mmo : Int32} {mbk : Nat → Int32} {mca : Nat → Int32} {mfr : Nat → Int32} {mrs : Int32} {mrk : Nat → Int32} {mfe : Nat → Int32} {mus : Nat → Int32} {mgi : Nat → Int32} {maj : Nat → Int32} (h : lw_c7 (xs (nI (3 * j) + 1).toNatClampNeg) (xs (nI (3 * j) + 2).toNatClampNeg) sz pr pm kv kn kr kt kb ks kj kw kg wd fw ad bk md cr ow hd mtd mnk mva mno mro mtu mbx mst mja mpr mcr mow mhd mmo mbk mca mfr mrs mrk mfe mus mgi maj N) : jw Γ 4 53 15332 (cgW a q sz pr pm kv kn kr kt kb ks kj kw kg wd fw ad bk md cr ow hd ++ mdW b q mtd mnk mva mno mro mtu mbx mst mja mpr mcr mow mhd mmo mbk mca mfr mrs mrk mfe mus mgi maj) [(0, .ref sc), (1, .ref (a 0)), (2, .ref (b 0)), (3, .int (nI (3 * j)))] [] 371 := by
  unfold lw_c7 at h
  refine j_aload_n g 1 rfl dL_law_371 ?_
  refine j_aload_n g 0 rfl dL_law_372 ?_
  refine j_iload_n g 3 rfl dL_law_373 ?_
  refine j_iconst g (v := 1) (by decide) dL_law_374 ?_
  refine j_iadd g dL_law_375 ?_
  refine j_sld g gs hv1 dL_law_376 ?_
  refine j_fLI_6 g (As := [.int (xs ((nI (3 * j)) + (1 : Int32)).toNatClampNeg)]) (st := []) (c_X5_put h) cl_L_46 0 5 cg_0 rfl rfl (Nat.le_of_ble_eq_true rfl) (Nat.le_of_ble_eq_true rfl) (Nat.le_of_ble_eq_true rfl) (Nat.le_of_ble_eq_true rfl) rfl rfl (Nat.le_of_ble_eq_true rfl) dL_law_377 (fun r1 kt' kb' wd' bk' cr' hd' h => ?_)
  refine j_ws (ws' := (cgW a q sz pr pm kv kn kr kt' kb' ks kj kw kg wd' fw ad bk' md cr' ow hd' ++ mdW b q mtd mnk mva mno mro mtu mbx mst mja mpr mcr mow mhd mmo mbk mca mfr mrs mrk mfe mus mgi maj)) rfl ?_
  refine j_aload_n g 2 rfl dL_law_380 ?_
  refine j_aload_n g 0 rfl dL_law_381 ?_
  refine j_iload_n g 3 rfl dL_law_382 ?_
  refine j_iconst g (v := 1) (by decide) dL_law_383 ?_
  refine j_iadd g dL_law_384 ?_
  refine j_sld g gs hv1 dL_law_385 ?_
  refine j_fRI_8 g (As := [.int (xs ((nI (3 * j)) + (1 : Int32)).toNatClampNeg)]) (st := [.int r1]) (c_X6_put h) cl_L_49 0 6 md_0 rfl rfl (Nat.le_of_ble_eq_true rfl) (Nat.le_of_ble_eq_true rfl) (Nat.le_of_ble_eq_true rfl) (Nat.le_of_ble_eq_true rfl) rfl rfl (Nat.le_of_ble_eq_true rfl) dL_law_386 (fun r2 mtd' mtu' mbx' mcr' mhd' mbk' mca' mfr' h => ?_)
  refine j_ws (ws' := (cgW a q sz pr pm kv kn kr kt' kb' ks kj kw kg wd' fw ad bk' md cr' ow hd' ++ mdW b q mtd' mnk mva mno mro mtu' mbx' mst mja mpr mcr' mow mhd' mmo mbk' mca' mfr' mrs mrk mfe mus mgi maj)) rfl ?_
  refine j_icmp_eq g dL_law_389 (tgt := 762) (by decide) (fun _ => ?_) (fun c => absurd h.1 c)
  exact hX sz pr pm kv kn kr kt' kb' ks kj kw kg wd' fw ad bk' md cr' ow hd' mtd' mnk mva mno mro mtu' mbx' mst mja mpr mcr' mow mhd' mmo mbk' mca' mfr' mrs mrk mfe mus mgi maj h.2
set_option maxRecDepth 20000 in
set_option maxHeartbeats 4000000 in
theorem lw_w8 {Γ : GT} {a b : Nat → Nat} {q : Nat → ClassId} {sc L j : Nat} {xs : Nat → Int32} {N : lwN} (g : gd Γ code RL 4 room_1 q) (gs : gS Γ sc L xs) (hv1 : vp_in (nI (3 * j) + 1) L) (hv2 : vp_in (nI (3 * j) + 2) L) (hX : ∀ (sz : Int32) (pr : Nat → Int32) (pm : Nat → Nat) (kv : Nat → Int32) (kn : Nat → Int32) (kr : Nat → Int32) (kt : Nat → Int32) (kb : Nat → Int32) (ks : Nat → Int32) (kj : Nat → Int32) (kw : Nat → Int32) (kg : Nat → Int32) (wd : Nat → Nat → Int64) (fw : Nat → Nat → Int32) (ad : Nat → Int32) (bk : Nat → Int32) (md : Int32) (cr : Int32) (ow : Int32) (hd : Int32) (mtd : Int32) (mnk : Int32) (mva : Nat → Int32) (mno : Nat → Int32) (mro : Nat → Int32) (mtu : Nat → Int32) (mbx : Nat → Int32) (mst : Nat → Int32) (mja : Nat → Int32) (mpr : Nat → Int32) (mcr : Int32) (mow : Int32) (mhd : Int32) (mmo : Int32) (mbk : Nat → Int32) (mca : Nat → Int32) (mfr : Nat → Int32) (mrs : Int32) (mrk : Nat → Int32) (mfe : Nat → Int32) (mus : Nat → Int32) (mgi : Nat → Int32) (maj : Nat → Int32), N sz pr pm kv kn kr kt kb ks kj kw kg wd fw ad bk md cr ow hd mtd mnk mva mno mro mtu mbx mst mja mpr mcr mow mhd mmo mbk mca mfr mrs mrk mfe mus mgi maj → jw Γ 4 53 15332 (cgW a q sz pr pm kv kn kr kt kb ks kj kw kg wd fw ad bk md cr ow hd ++ mdW b q mtd mnk mva mno mro mtu mbx mst mja mpr mcr mow mhd mmo mbk mca mfr mrs mrk mfe mus mgi maj) [(0, .ref sc), (1, .ref (a 0)), (2, .ref (b 0)), (3, .int (nI (3 * j)))] [] 762) {sz : Int32} {pr : Nat → Int32} {pm : Nat → Nat} {kv : Nat → Int32} {kn : Nat → Int32} {kr : Nat → Int32} {kt : Nat → Int32} {kb : Nat → Int32} {ks : Nat → Int32} {kj : Nat → Int32} {kw : Nat → Int32} {kg : Nat → Int32} {wd : Nat → Nat → Int64} {fw : Nat → Nat → Int32} {ad : Nat → Int32} {bk : Nat → Int32} {md : Int32} {cr : Int32} {ow : Int32} {hd : Int32} {mtd : Int32} {mnk : Int32} {mva : Nat → Int32} {mno : Nat → Int32} {mro : Nat → Int32} {mtu : Nat → Int32} {mbx : Nat → Int32} {mst : Nat → Int32} {mja : Nat → Int32} {mpr : Nat → Int32} {mcr : Int32} {mow : Int32} {mhd : Int32} {mmo : Int32} {mbk : Nat → Int32} {mca : Nat → Int32} {mfr : Nat → Int32} {mrs : Int32} {mrk : Nat → Int32} {mfe : Nat → Int32} {mus : Nat → Int32} {mgi : Nat → Int32} {maj : Nat → Int32} (h : lw_c8 (xs (nI (3 * j) + 1).toNatClampNeg) (xs (nI (3 * j) + 2).toNatClampNeg) sz pr pm kv kn kr kt kb ks kj kw kg wd fw ad bk md cr ow hd mtd mnk mva mno mro mtu mbx mst mja mpr mcr mow mhd mmo mbk mca mfr mrs mrk mfe mus mgi maj N) : jw Γ 4 53 15332 (cgW a q sz pr pm kv kn kr kt kb ks kj kw kg wd fw ad bk md cr ow hd ++ mdW b q mtd mnk mva mno mro mtu mbx mst mja mpr mcr mow mhd mmo mbk mca mfr mrs mrk mfe mus mgi maj) [(0, .ref sc), (1, .ref (a 0)), (2, .ref (b 0)), (3, .int (nI (3 * j)))] [] 394 := by
  unfold lw_c8 at h
  refine j_aload_n g 1 rfl dL_law_394 ?_
  refine j_aload_n g 0 rfl dL_law_395 ?_
  refine j_iload_n g 3 rfl dL_law_396 ?_
  refine j_iconst g (v := 1) (by decide) dL_law_397 ?_
  refine j_iadd g dL_law_398 ?_
  refine j_sld g gs hv1 dL_law_399 ?_
  refine j_fLI_1 g (As := [.int (xs ((nI (3 * j)) + (1 : Int32)).toNatClampNeg)]) (st := []) (c_X5_takes h) cl_L_50 0 5 cg_0 rfl rfl (Nat.le_of_ble_eq_true rfl) (Nat.le_of_ble_eq_true rfl) (Nat.le_of_ble_eq_true rfl) (Nat.le_of_ble_eq_true rfl) rfl rfl (Nat.le_of_ble_eq_true rfl) dL_law_400 (fun r1 wd' h => ?_)
  refine j_ws (ws' := (cgW a q sz pr pm kv kn kr kt kb ks kj kw kg wd' fw ad bk md cr ow hd ++ mdW b q mtd mnk mva mno mro mtu mbx mst mja mpr mcr mow mhd mmo mbk mca mfr mrs mrk mfe mus mgi maj)) rfl ?_
  refine j_aload_n g 2 rfl dL_law_403 ?_
  refine j_aload_n g 0 rfl dL_law_404 ?_
  refine j_iload_n g 3 rfl dL_law_405 ?_
  refine j_iconst g (v := 1) (by decide) dL_law_406 ?_
  refine j_iadd g dL_law_407 ?_
  refine j_sld g gs hv1 dL_law_408 ?_
  refine j_fRI_4 g (As := [.int (xs ((nI (3 * j)) + (1 : Int32)).toNatClampNeg)]) (st := [.int r1]) (c_X6_takes h) cl_L_53 0 6 md_0 rfl rfl (Nat.le_of_ble_eq_true rfl) (Nat.le_of_ble_eq_true rfl) (Nat.le_of_ble_eq_true rfl) (Nat.le_of_ble_eq_true rfl) rfl rfl (Nat.le_of_ble_eq_true rfl) dL_law_409 (fun r2 mtd' mtu' mca' mfr' h => ?_)
  refine j_ws (ws' := (cgW a q sz pr pm kv kn kr kt kb ks kj kw kg wd' fw ad bk md cr ow hd ++ mdW b q mtd' mnk mva mno mro mtu' mbx mst mja mpr mcr mow mhd mmo mbk mca' mfr' mrs mrk mfe mus mgi maj)) rfl ?_
  refine j_icmp_eq g dL_law_412 (tgt := 762) (by decide) (fun _ => ?_) (fun c => absurd h.1 c)
  exact hX sz pr pm kv kn kr kt kb ks kj kw kg wd' fw ad bk md cr ow hd mtd' mnk mva mno mro mtu' mbx mst mja mpr mcr mow mhd mmo mbk mca' mfr' mrs mrk mfe mus mgi maj h.2
set_option maxRecDepth 20000 in
set_option maxHeartbeats 4000000 in
theorem lw_w9 {Γ : GT} {a b : Nat → Nat} {q : Nat → ClassId} {sc L j : Nat} {xs : Nat → Int32} {N : lwN} (g : gd Γ code RL 4 room_1 q) (gs : gS Γ sc L xs) (hv1 : vp_in (nI (3 * j) + 1) L) (hv2 : vp_in (nI (3 * j) + 2) L) (hX : ∀ (sz : Int32) (pr : Nat → Int32) (pm : Nat → Nat) (kv : Nat → Int32) (kn : Nat → Int32) (kr : Nat → Int32) (kt : Nat → Int32) (kb : Nat → Int32) (ks : Nat → Int32) (kj : Nat → Int32) (kw : Nat → Int32) (kg : Nat → Int32) (wd : Nat → Nat → Int64) (fw : Nat → Nat → Int32) (ad : Nat → Int32) (bk : Nat → Int32) (md : Int32) (cr : Int32) (ow : Int32) (hd : Int32) (mtd : Int32) (mnk : Int32) (mva : Nat → Int32) (mno : Nat → Int32) (mro : Nat → Int32) (mtu : Nat → Int32) (mbx : Nat → Int32) (mst : Nat → Int32) (mja : Nat → Int32) (mpr : Nat → Int32) (mcr : Int32) (mow : Int32) (mhd : Int32) (mmo : Int32) (mbk : Nat → Int32) (mca : Nat → Int32) (mfr : Nat → Int32) (mrs : Int32) (mrk : Nat → Int32) (mfe : Nat → Int32) (mus : Nat → Int32) (mgi : Nat → Int32) (maj : Nat → Int32), N sz pr pm kv kn kr kt kb ks kj kw kg wd fw ad bk md cr ow hd mtd mnk mva mno mro mtu mbx mst mja mpr mcr mow mhd mmo mbk mca mfr mrs mrk mfe mus mgi maj → jw Γ 4 53 15332 (cgW a q sz pr pm kv kn kr kt kb ks kj kw kg wd fw ad bk md cr ow hd ++ mdW b q mtd mnk mva mno mro mtu mbx mst mja mpr mcr mow mhd mmo mbk mca mfr mrs mrk mfe mus mgi maj) [(0, .ref sc), (1, .ref (a 0)), (2, .ref (b 0)), (3, .int (nI (3 * j)))] [] 762) {sz : Int32} {pr : Nat → Int32} {pm : Nat → Nat} {kv : Nat → Int32} {kn : Nat → Int32} {kr : Nat → Int32} {kt : Nat → Int32} {kb : Nat → Int32} {ks : Nat → Int32} {kj : Nat → Int32} {kw : Nat → Int32} {kg : Nat → Int32} {wd : Nat → Nat → Int64} {fw : Nat → Nat → Int32} {ad : Nat → Int32} {bk : Nat → Int32} {md : Int32} {cr : Int32} {ow : Int32} {hd : Int32} {mtd : Int32} {mnk : Int32} {mva : Nat → Int32} {mno : Nat → Int32} {mro : Nat → Int32} {mtu : Nat → Int32} {mbx : Nat → Int32} {mst : Nat → Int32} {mja : Nat → Int32} {mpr : Nat → Int32} {mcr : Int32} {mow : Int32} {mhd : Int32} {mmo : Int32} {mbk : Nat → Int32} {mca : Nat → Int32} {mfr : Nat → Int32} {mrs : Int32} {mrk : Nat → Int32} {mfe : Nat → Int32} {mus : Nat → Int32} {mgi : Nat → Int32} {maj : Nat → Int32} (h : lw_c9 (xs (nI (3 * j) + 1).toNatClampNeg) (xs (nI (3 * j) + 2).toNatClampNeg) sz pr pm kv kn kr kt kb ks kj kw kg wd fw ad bk md cr ow hd mtd mnk mva mno mro mtu mbx mst mja mpr mcr mow mhd mmo mbk mca mfr mrs mrk mfe mus mgi maj N) : jw Γ 4 53 15332 (cgW a q sz pr pm kv kn kr kt kb ks kj kw kg wd fw ad bk md cr ow hd ++ mdW b q mtd mnk mva mno mro mtu mbx mst mja mpr mcr mow mhd mmo mbk mca mfr mrs mrk mfe mus mgi maj) [(0, .ref sc), (1, .ref (a 0)), (2, .ref (b 0)), (3, .int (nI (3 * j)))] [] 417 := by
  unfold lw_c9 at h
  refine j_aload_n g 1 rfl dL_law_417 ?_
  refine j_aload_n g 0 rfl dL_law_418 ?_
  refine j_iload_n g 3 rfl dL_law_419 ?_
  refine j_iconst g (v := 1) (by decide) dL_law_420 ?_
  refine j_iadd g dL_law_421 ?_
  refine j_sld g gs hv1 dL_law_422 ?_
  refine j_fLI_12 g (As := [.int (xs ((nI (3 * j)) + (1 : Int32)).toNatClampNeg)]) (st := []) (c_X5_buy h) cl_L_54 0 5 cg_0 rfl rfl (Nat.le_of_ble_eq_true rfl) (Nat.le_of_ble_eq_true rfl) (Nat.le_of_ble_eq_true rfl) (Nat.le_of_ble_eq_true rfl) rfl rfl (Nat.le_of_ble_eq_true rfl) dL_law_423 (fun r1 kt' kb' ks' kj' kw' kg' wd' fw' bk' cr' ow' hd' h => ?_)
  refine j_ws (ws' := (cgW a q sz pr pm kv kn kr kt' kb' ks' kj' kw' kg' wd' fw' ad bk' md cr' ow' hd' ++ mdW b q mtd mnk mva mno mro mtu mbx mst mja mpr mcr mow mhd mmo mbk mca mfr mrs mrk mfe mus mgi maj)) rfl ?_
  refine j_aload_n g 2 rfl dL_law_426 ?_
  refine j_aload_n g 0 rfl dL_law_427 ?_
  refine j_iload_n g 3 rfl dL_law_428 ?_
  refine j_iconst g (v := 1) (by decide) dL_law_429 ?_
  refine j_iadd g dL_law_430 ?_
  refine j_sld g gs hv1 dL_law_431 ?_
  refine j_fRI_14 g (As := [.int (xs ((nI (3 * j)) + (1 : Int32)).toNatClampNeg)]) (st := [.int r1]) (c_X6_buy h) cl_L_57 0 6 md_0 rfl rfl (Nat.le_of_ble_eq_true rfl) (Nat.le_of_ble_eq_true rfl) (Nat.le_of_ble_eq_true rfl) (Nat.le_of_ble_eq_true rfl) rfl rfl (Nat.le_of_ble_eq_true rfl) dL_law_432 (fun r2 mtd' mtu' mbx' mst' mja' mcr' mow' mhd' mbk' mrs' mrk' mfe' mus' mgi' h => ?_)
  refine j_ws (ws' := (cgW a q sz pr pm kv kn kr kt' kb' ks' kj' kw' kg' wd' fw' ad bk' md cr' ow' hd' ++ mdW b q mtd' mnk mva mno mro mtu' mbx' mst' mja' mpr mcr' mow' mhd' mmo mbk' mca mfr mrs' mrk' mfe' mus' mgi' maj)) rfl ?_
  refine j_icmp_eq g dL_law_435 (tgt := 762) (by decide) (fun _ => ?_) (fun c => absurd h.1 c)
  exact hX sz pr pm kv kn kr kt' kb' ks' kj' kw' kg' wd' fw' ad bk' md cr' ow' hd' mtd' mnk mva mno mro mtu' mbx' mst' mja' mpr mcr' mow' mhd' mmo mbk' mca mfr mrs' mrk' mfe' mus' mgi' maj h.2
set_option maxRecDepth 20000 in
set_option maxHeartbeats 4000000 in
theorem lw_w10 {Γ : GT} {a b : Nat → Nat} {q : Nat → ClassId} {sc L j : Nat} {xs : Nat → Int32} {N : lwN} (g : gd Γ code RL 4 room_1 q) (gs : gS Γ sc L xs) (hv1 : vp_in (nI (3 * j) + 1) L) (hv2 : vp_in (nI (3 * j) + 2) L) (hX : ∀ (sz : Int32) (pr : Nat → Int32) (pm : Nat → Nat) (kv : Nat → Int32) (kn : Nat → Int32) (kr : Nat → Int32) (kt : Nat → Int32) (kb : Nat → Int32) (ks : Nat → Int32) (kj : Nat → Int32) (kw : Nat → Int32) (kg : Nat → Int32) (wd : Nat → Nat → Int64) (fw : Nat → Nat → Int32) (ad : Nat → Int32) (bk : Nat → Int32) (md : Int32) (cr : Int32) (ow : Int32) (hd : Int32) (mtd : Int32) (mnk : Int32) (mva : Nat → Int32) (mno : Nat → Int32) (mro : Nat → Int32) (mtu : Nat → Int32) (mbx : Nat → Int32) (mst : Nat → Int32) (mja : Nat → Int32) (mpr : Nat → Int32) (mcr : Int32) (mow : Int32) (mhd : Int32) (mmo : Int32) (mbk : Nat → Int32) (mca : Nat → Int32) (mfr : Nat → Int32) (mrs : Int32) (mrk : Nat → Int32) (mfe : Nat → Int32) (mus : Nat → Int32) (mgi : Nat → Int32) (maj : Nat → Int32), N sz pr pm kv kn kr kt kb ks kj kw kg wd fw ad bk md cr ow hd mtd mnk mva mno mro mtu mbx mst mja mpr mcr mow mhd mmo mbk mca mfr mrs mrk mfe mus mgi maj → jw Γ 4 53 15332 (cgW a q sz pr pm kv kn kr kt kb ks kj kw kg wd fw ad bk md cr ow hd ++ mdW b q mtd mnk mva mno mro mtu mbx mst mja mpr mcr mow mhd mmo mbk mca mfr mrs mrk mfe mus mgi maj) [(0, .ref sc), (1, .ref (a 0)), (2, .ref (b 0)), (3, .int (nI (3 * j)))] [] 762) {sz : Int32} {pr : Nat → Int32} {pm : Nat → Nat} {kv : Nat → Int32} {kn : Nat → Int32} {kr : Nat → Int32} {kt : Nat → Int32} {kb : Nat → Int32} {ks : Nat → Int32} {kj : Nat → Int32} {kw : Nat → Int32} {kg : Nat → Int32} {wd : Nat → Nat → Int64} {fw : Nat → Nat → Int32} {ad : Nat → Int32} {bk : Nat → Int32} {md : Int32} {cr : Int32} {ow : Int32} {hd : Int32} {mtd : Int32} {mnk : Int32} {mva : Nat → Int32} {mno : Nat → Int32} {mro : Nat → Int32} {mtu : Nat → Int32} {mbx : Nat → Int32} {mst : Nat → Int32} {mja : Nat → Int32} {mpr : Nat → Int32} {mcr : Int32} {mow : Int32} {mhd : Int32} {mmo : Int32} {mbk : Nat → Int32} {mca : Nat → Int32} {mfr : Nat → Int32} {mrs : Int32} {mrk : Nat → Int32} {mfe : Nat → Int32} {mus : Nat → Int32} {mgi : Nat → Int32} {maj : Nat → Int32} (h : lw_c10 (xs (nI (3 * j) + 1).toNatClampNeg) (xs (nI (3 * j) + 2).toNatClampNeg) sz pr pm kv kn kr kt kb ks kj kw kg wd fw ad bk md cr ow hd mtd mnk mva mno mro mtu mbx mst mja mpr mcr mow mhd mmo mbk mca mfr mrs mrk mfe mus mgi maj N) : jw Γ 4 53 15332 (cgW a q sz pr pm kv kn kr kt kb ks kj kw kg wd fw ad bk md cr ow hd ++ mdW b q mtd mnk mva mno mro mtu mbx mst mja mpr mcr mow mhd mmo mbk mca mfr mrs mrk mfe mus mgi maj) [(0, .ref sc), (1, .ref (a 0)), (2, .ref (b 0)), (3, .int (nI (3 * j)))] [] 440 := by
  unfold lw_c10 at h
  refine j_aload_n g 1 rfl dL_law_440 ?_
  refine j_fLI_11 g (As := []) (st := []) (c_X5_refund h) cl_L_58 0 5 cg_0 rfl rfl (Nat.le_of_ble_eq_true rfl) (Nat.le_of_ble_eq_true rfl) (Nat.le_of_ble_eq_true rfl) (Nat.le_of_ble_eq_true rfl) rfl rfl (Nat.le_of_ble_eq_true rfl) dL_law_441 (fun r1 kt' ks' kj' kw' kg' wd' fw' bk' cr' ow' hd' h => ?_)
  refine j_ws (ws' := (cgW a q sz pr pm kv kn kr kt' kb ks' kj' kw' kg' wd' fw' ad bk' md cr' ow' hd' ++ mdW b q mtd mnk mva mno mro mtu mbx mst mja mpr mcr mow mhd mmo mbk mca mfr mrs mrk mfe mus mgi maj)) rfl ?_
  refine j_aload_n g 2 rfl dL_law_444 ?_
  refine j_fRI_13 g (As := []) (st := [.int r1]) (c_X6_refund h) cl_L_62 0 6 md_0 rfl rfl (Nat.le_of_ble_eq_true rfl) (Nat.le_of_ble_eq_true rfl) (Nat.le_of_ble_eq_true rfl) (Nat.le_of_ble_eq_true rfl) rfl rfl (Nat.le_of_ble_eq_true rfl) dL_law_445 (fun r2 mtd' mtu' mst' mja' mcr' mow' mhd' mbk' mrs' mrk' mfe' mus' mgi' h => ?_)
  refine j_ws (ws' := (cgW a q sz pr pm kv kn kr kt' kb ks' kj' kw' kg' wd' fw' ad bk' md cr' ow' hd' ++ mdW b q mtd' mnk mva mno mro mtu' mbx mst' mja' mpr mcr' mow' mhd' mmo mbk' mca mfr mrs' mrk' mfe' mus' mgi' maj)) rfl ?_
  refine j_icmp_eq g dL_law_448 (tgt := 762) (by decide) (fun _ => ?_) (fun c => absurd h.1 c)
  exact hX sz pr pm kv kn kr kt' kb ks' kj' kw' kg' wd' fw' ad bk' md cr' ow' hd' mtd' mnk mva mno mro mtu' mbx mst' mja' mpr mcr' mow' mhd' mmo mbk' mca mfr mrs' mrk' mfe' mus' mgi' maj h.2
set_option maxRecDepth 20000 in
set_option maxHeartbeats 4000000 in
theorem lw_w11 {Γ : GT} {a b : Nat → Nat} {q : Nat → ClassId} {sc L j : Nat} {xs : Nat → Int32} {N : lwN} (g : gd Γ code RL 4 room_1 q) (gs : gS Γ sc L xs) (hv1 : vp_in (nI (3 * j) + 1) L) (hv2 : vp_in (nI (3 * j) + 2) L) (hX : ∀ (sz : Int32) (pr : Nat → Int32) (pm : Nat → Nat) (kv : Nat → Int32) (kn : Nat → Int32) (kr : Nat → Int32) (kt : Nat → Int32) (kb : Nat → Int32) (ks : Nat → Int32) (kj : Nat → Int32) (kw : Nat → Int32) (kg : Nat → Int32) (wd : Nat → Nat → Int64) (fw : Nat → Nat → Int32) (ad : Nat → Int32) (bk : Nat → Int32) (md : Int32) (cr : Int32) (ow : Int32) (hd : Int32) (mtd : Int32) (mnk : Int32) (mva : Nat → Int32) (mno : Nat → Int32) (mro : Nat → Int32) (mtu : Nat → Int32) (mbx : Nat → Int32) (mst : Nat → Int32) (mja : Nat → Int32) (mpr : Nat → Int32) (mcr : Int32) (mow : Int32) (mhd : Int32) (mmo : Int32) (mbk : Nat → Int32) (mca : Nat → Int32) (mfr : Nat → Int32) (mrs : Int32) (mrk : Nat → Int32) (mfe : Nat → Int32) (mus : Nat → Int32) (mgi : Nat → Int32) (maj : Nat → Int32), N sz pr pm kv kn kr kt kb ks kj kw kg wd fw ad bk md cr ow hd mtd mnk mva mno mro mtu mbx mst mja mpr mcr mow mhd mmo mbk mca mfr mrs mrk mfe mus mgi maj → jw Γ 4 53 15332 (cgW a q sz pr pm kv kn kr kt kb ks kj kw kg wd fw ad bk md cr ow hd ++ mdW b q mtd mnk mva mno mro mtu mbx mst mja mpr mcr mow mhd mmo mbk mca mfr mrs mrk mfe mus mgi maj) [(0, .ref sc), (1, .ref (a 0)), (2, .ref (b 0)), (3, .int (nI (3 * j)))] [] 762) {sz : Int32} {pr : Nat → Int32} {pm : Nat → Nat} {kv : Nat → Int32} {kn : Nat → Int32} {kr : Nat → Int32} {kt : Nat → Int32} {kb : Nat → Int32} {ks : Nat → Int32} {kj : Nat → Int32} {kw : Nat → Int32} {kg : Nat → Int32} {wd : Nat → Nat → Int64} {fw : Nat → Nat → Int32} {ad : Nat → Int32} {bk : Nat → Int32} {md : Int32} {cr : Int32} {ow : Int32} {hd : Int32} {mtd : Int32} {mnk : Int32} {mva : Nat → Int32} {mno : Nat → Int32} {mro : Nat → Int32} {mtu : Nat → Int32} {mbx : Nat → Int32} {mst : Nat → Int32} {mja : Nat → Int32} {mpr : Nat → Int32} {mcr : Int32} {mow : Int32} {mhd : Int32} {mmo : Int32} {mbk : Nat → Int32} {mca : Nat → Int32} {mfr : Nat → Int32} {mrs : Int32} {mrk : Nat → Int32} {mfe : Nat → Int32} {mus : Nat → Int32} {mgi : Nat → Int32} {maj : Nat → Int32} (h : lw_c11 (xs (nI (3 * j) + 1).toNatClampNeg) (xs (nI (3 * j) + 2).toNatClampNeg) sz pr pm kv kn kr kt kb ks kj kw kg wd fw ad bk md cr ow hd mtd mnk mva mno mro mtu mbx mst mja mpr mcr mow mhd mmo mbk mca mfr mrs mrk mfe mus mgi maj N) : jw Γ 4 53 15332 (cgW a q sz pr pm kv kn kr kt kb ks kj kw kg wd fw ad bk md cr ow hd ++ mdW b q mtd mnk mva mno mro mtu mbx mst mja mpr mcr mow mhd mmo mbk mca mfr mrs mrk mfe mus mgi maj) [(0, .ref sc), (1, .ref (a 0)), (2, .ref (b 0)), (3, .int (nI (3 * j)))] [] 453 := by
  unfold lw_c11 at h
  refine j_aload_n g 1 rfl dL_law_453 ?_
  refine j_fLI_9 g (As := []) (st := []) (c_X5_pay h) cl_L_63 0 5 cg_0 rfl rfl (Nat.le_of_ble_eq_true rfl) (Nat.le_of_ble_eq_true rfl) (Nat.le_of_ble_eq_true rfl) (Nat.le_of_ble_eq_true rfl) rfl rfl (Nat.le_of_ble_eq_true rfl) dL_law_454 (fun r1 kt' ks' kj' kw' kg' wd' fw' bk' ow' h => ?_)
  refine j_ws (ws' := (cgW a q sz pr pm kv kn kr kt' kb ks' kj' kw' kg' wd' fw' ad bk' md cr ow' hd ++ mdW b q mtd mnk mva mno mro mtu mbx mst mja mpr mcr mow mhd mmo mbk mca mfr mrs mrk mfe mus mgi maj)) rfl ?_
  refine j_aload_n g 2 rfl dL_law_457 ?_
  refine j_fRI_13 g (As := []) (st := [.int r1]) (c_X6_pay h) cl_L_66 0 6 md_0 rfl rfl (Nat.le_of_ble_eq_true rfl) (Nat.le_of_ble_eq_true rfl) (Nat.le_of_ble_eq_true rfl) (Nat.le_of_ble_eq_true rfl) rfl rfl (Nat.le_of_ble_eq_true rfl) dL_law_458 (fun r2 mtd' mtu' mst' mja' mow' mbk' mca' mfr' mrs' mrk' mfe' mus' mgi' h => ?_)
  refine j_ws (ws' := (cgW a q sz pr pm kv kn kr kt' kb ks' kj' kw' kg' wd' fw' ad bk' md cr ow' hd ++ mdW b q mtd' mnk mva mno mro mtu' mbx mst' mja' mpr mcr mow' mhd mmo mbk' mca' mfr' mrs' mrk' mfe' mus' mgi' maj)) rfl ?_
  refine j_icmp_eq g dL_law_461 (tgt := 762) (by decide) (fun _ => ?_) (fun c => absurd h.1 c)
  exact hX sz pr pm kv kn kr kt' kb ks' kj' kw' kg' wd' fw' ad bk' md cr ow' hd mtd' mnk mva mno mro mtu' mbx mst' mja' mpr mcr mow' mhd mmo mbk' mca' mfr' mrs' mrk' mfe' mus' mgi' maj h.2
set_option maxRecDepth 20000 in
set_option maxHeartbeats 4000000 in
theorem lw_w12 {Γ : GT} {a b : Nat → Nat} {q : Nat → ClassId} {sc L j : Nat} {xs : Nat → Int32} {N : lwN} (g : gd Γ code RL 4 room_1 q) (gs : gS Γ sc L xs) (hv1 : vp_in (nI (3 * j) + 1) L) (hv2 : vp_in (nI (3 * j) + 2) L) (hX : ∀ (sz : Int32) (pr : Nat → Int32) (pm : Nat → Nat) (kv : Nat → Int32) (kn : Nat → Int32) (kr : Nat → Int32) (kt : Nat → Int32) (kb : Nat → Int32) (ks : Nat → Int32) (kj : Nat → Int32) (kw : Nat → Int32) (kg : Nat → Int32) (wd : Nat → Nat → Int64) (fw : Nat → Nat → Int32) (ad : Nat → Int32) (bk : Nat → Int32) (md : Int32) (cr : Int32) (ow : Int32) (hd : Int32) (mtd : Int32) (mnk : Int32) (mva : Nat → Int32) (mno : Nat → Int32) (mro : Nat → Int32) (mtu : Nat → Int32) (mbx : Nat → Int32) (mst : Nat → Int32) (mja : Nat → Int32) (mpr : Nat → Int32) (mcr : Int32) (mow : Int32) (mhd : Int32) (mmo : Int32) (mbk : Nat → Int32) (mca : Nat → Int32) (mfr : Nat → Int32) (mrs : Int32) (mrk : Nat → Int32) (mfe : Nat → Int32) (mus : Nat → Int32) (mgi : Nat → Int32) (maj : Nat → Int32), N sz pr pm kv kn kr kt kb ks kj kw kg wd fw ad bk md cr ow hd mtd mnk mva mno mro mtu mbx mst mja mpr mcr mow mhd mmo mbk mca mfr mrs mrk mfe mus mgi maj → jw Γ 4 53 15332 (cgW a q sz pr pm kv kn kr kt kb ks kj kw kg wd fw ad bk md cr ow hd ++ mdW b q mtd mnk mva mno mro mtu mbx mst mja mpr mcr mow mhd mmo mbk mca mfr mrs mrk mfe mus mgi maj) [(0, .ref sc), (1, .ref (a 0)), (2, .ref (b 0)), (3, .int (nI (3 * j)))] [] 762) {sz : Int32} {pr : Nat → Int32} {pm : Nat → Nat} {kv : Nat → Int32} {kn : Nat → Int32} {kr : Nat → Int32} {kt : Nat → Int32} {kb : Nat → Int32} {ks : Nat → Int32} {kj : Nat → Int32} {kw : Nat → Int32} {kg : Nat → Int32} {wd : Nat → Nat → Int64} {fw : Nat → Nat → Int32} {ad : Nat → Int32} {bk : Nat → Int32} {md : Int32} {cr : Int32} {ow : Int32} {hd : Int32} {mtd : Int32} {mnk : Int32} {mva : Nat → Int32} {mno : Nat → Int32} {mro : Nat → Int32} {mtu : Nat → Int32} {mbx : Nat → Int32} {mst : Nat → Int32} {mja : Nat → Int32} {mpr : Nat → Int32} {mcr : Int32} {mow : Int32} {mhd : Int32} {mmo : Int32} {mbk : Nat → Int32} {mca : Nat → Int32} {mfr : Nat → Int32} {mrs : Int32} {mrk : Nat → Int32} {mfe : Nat → Int32} {mus : Nat → Int32} {mgi : Nat → Int32} {maj : Nat → Int32} (h : lw_c12 (xs (nI (3 * j) + 1).toNatClampNeg) (xs (nI (3 * j) + 2).toNatClampNeg) sz pr pm kv kn kr kt kb ks kj kw kg wd fw ad bk md cr ow hd mtd mnk mva mno mro mtu mbx mst mja mpr mcr mow mhd mmo mbk mca mfr mrs mrk mfe mus mgi maj N) : jw Γ 4 53 15332 (cgW a q sz pr pm kv kn kr kt kb ks kj kw kg wd fw ad bk md cr ow hd ++ mdW b q mtd mnk mva mno mro mtu mbx mst mja mpr mcr mow mhd mmo mbk mca mfr mrs mrk mfe mus mgi maj) [(0, .ref sc), (1, .ref (a 0)), (2, .ref (b 0)), (3, .int (nI (3 * j)))] [] 466 := by
  unfold lw_c12 at h
  refine j_aload_n g 1 rfl dL_law_466 ?_
  refine j_aload_n g 0 rfl dL_law_467 ?_
  refine j_iload_n g 3 rfl dL_law_468 ?_
  refine j_iconst g (v := 1) (by decide) dL_law_469 ?_
  refine j_iadd g dL_law_470 ?_
  refine j_sld g gs hv1 dL_law_471 ?_
  refine j_fLI_0 g (As := [.int (xs ((nI (3 * j)) + (1 : Int32)).toNatClampNeg)]) (st := []) (c_X5_gave h) cl_L_67 0 5 cg_0 rfl rfl (Nat.le_of_ble_eq_true rfl) (Nat.le_of_ble_eq_true rfl) (Nat.le_of_ble_eq_true rfl) (Nat.le_of_ble_eq_true rfl) rfl rfl (Nat.le_of_ble_eq_true rfl) dL_law_472 (fun r1  h => ?_)
  refine j_aload_n g 2 rfl dL_law_475 ?_
  refine j_aload_n g 0 rfl dL_law_476 ?_
  refine j_iload_n g 3 rfl dL_law_477 ?_
  refine j_iconst g (v := 1) (by decide) dL_law_478 ?_
  refine j_iadd g dL_law_479 ?_
  refine j_sld g gs hv1 dL_law_480 ?_
  refine j_fRI_1 g (As := [.int (xs ((nI (3 * j)) + (1 : Int32)).toNatClampNeg)]) (st := [.int r1]) (c_X6_gave h) cl_L_70 0 6 md_0 rfl rfl (Nat.le_of_ble_eq_true rfl) (Nat.le_of_ble_eq_true rfl) (Nat.le_of_ble_eq_true rfl) (Nat.le_of_ble_eq_true rfl) rfl rfl (Nat.le_of_ble_eq_true rfl) dL_law_481 (fun r2 mtd' h => ?_)
  refine j_ws (ws' := (cgW a q sz pr pm kv kn kr kt kb ks kj kw kg wd fw ad bk md cr ow hd ++ mdW b q mtd' mnk mva mno mro mtu mbx mst mja mpr mcr mow mhd mmo mbk mca mfr mrs mrk mfe mus mgi maj)) rfl ?_
  refine j_icmp_eq g dL_law_484 (tgt := 762) (by decide) (fun _ => ?_) (fun c => absurd h.1 c)
  exact hX sz pr pm kv kn kr kt kb ks kj kw kg wd fw ad bk md cr ow hd mtd' mnk mva mno mro mtu mbx mst mja mpr mcr mow mhd mmo mbk mca mfr mrs mrk mfe mus mgi maj h.2
set_option maxRecDepth 20000 in
set_option maxHeartbeats 4000000 in
theorem lw_w13 {Γ : GT} {a b : Nat → Nat} {q : Nat → ClassId} {sc L j : Nat} {xs : Nat → Int32} {N : lwN} (g : gd Γ code RL 4 room_1 q) (gs : gS Γ sc L xs) (hv1 : vp_in (nI (3 * j) + 1) L) (hv2 : vp_in (nI (3 * j) + 2) L) (hX : ∀ (sz : Int32) (pr : Nat → Int32) (pm : Nat → Nat) (kv : Nat → Int32) (kn : Nat → Int32) (kr : Nat → Int32) (kt : Nat → Int32) (kb : Nat → Int32) (ks : Nat → Int32) (kj : Nat → Int32) (kw : Nat → Int32) (kg : Nat → Int32) (wd : Nat → Nat → Int64) (fw : Nat → Nat → Int32) (ad : Nat → Int32) (bk : Nat → Int32) (md : Int32) (cr : Int32) (ow : Int32) (hd : Int32) (mtd : Int32) (mnk : Int32) (mva : Nat → Int32) (mno : Nat → Int32) (mro : Nat → Int32) (mtu : Nat → Int32) (mbx : Nat → Int32) (mst : Nat → Int32) (mja : Nat → Int32) (mpr : Nat → Int32) (mcr : Int32) (mow : Int32) (mhd : Int32) (mmo : Int32) (mbk : Nat → Int32) (mca : Nat → Int32) (mfr : Nat → Int32) (mrs : Int32) (mrk : Nat → Int32) (mfe : Nat → Int32) (mus : Nat → Int32) (mgi : Nat → Int32) (maj : Nat → Int32), N sz pr pm kv kn kr kt kb ks kj kw kg wd fw ad bk md cr ow hd mtd mnk mva mno mro mtu mbx mst mja mpr mcr mow mhd mmo mbk mca mfr mrs mrk mfe mus mgi maj → jw Γ 4 53 15332 (cgW a q sz pr pm kv kn kr kt kb ks kj kw kg wd fw ad bk md cr ow hd ++ mdW b q mtd mnk mva mno mro mtu mbx mst mja mpr mcr mow mhd mmo mbk mca mfr mrs mrk mfe mus mgi maj) [(0, .ref sc), (1, .ref (a 0)), (2, .ref (b 0)), (3, .int (nI (3 * j)))] [] 762) {sz : Int32} {pr : Nat → Int32} {pm : Nat → Nat} {kv : Nat → Int32} {kn : Nat → Int32} {kr : Nat → Int32} {kt : Nat → Int32} {kb : Nat → Int32} {ks : Nat → Int32} {kj : Nat → Int32} {kw : Nat → Int32} {kg : Nat → Int32} {wd : Nat → Nat → Int64} {fw : Nat → Nat → Int32} {ad : Nat → Int32} {bk : Nat → Int32} {md : Int32} {cr : Int32} {ow : Int32} {hd : Int32} {mtd : Int32} {mnk : Int32} {mva : Nat → Int32} {mno : Nat → Int32} {mro : Nat → Int32} {mtu : Nat → Int32} {mbx : Nat → Int32} {mst : Nat → Int32} {mja : Nat → Int32} {mpr : Nat → Int32} {mcr : Int32} {mow : Int32} {mhd : Int32} {mmo : Int32} {mbk : Nat → Int32} {mca : Nat → Int32} {mfr : Nat → Int32} {mrs : Int32} {mrk : Nat → Int32} {mfe : Nat → Int32} {mus : Nat → Int32} {mgi : Nat → Int32} {maj : Nat → Int32} (h : lw_c13 (xs (nI (3 * j) + 1).toNatClampNeg) (xs (nI (3 * j) + 2).toNatClampNeg) sz pr pm kv kn kr kt kb ks kj kw kg wd fw ad bk md cr ow hd mtd mnk mva mno mro mtu mbx mst mja mpr mcr mow mhd mmo mbk mca mfr mrs mrk mfe mus mgi maj N) : jw Γ 4 53 15332 (cgW a q sz pr pm kv kn kr kt kb ks kj kw kg wd fw ad bk md cr ow hd ++ mdW b q mtd mnk mva mno mro mtu mbx mst mja mpr mcr mow mhd mmo mbk mca mfr mrs mrk mfe mus mgi maj) [(0, .ref sc), (1, .ref (a 0)), (2, .ref (b 0)), (3, .int (nI (3 * j)))] [] 489 := by
  unfold lw_c13 at h
  refine j_aload_n g 1 rfl dL_law_489 ?_
  refine j_aload_n g 0 rfl dL_law_490 ?_
  refine j_iload_n g 3 rfl dL_law_491 ?_
  refine j_iconst g (v := 1) (by decide) dL_law_492 ?_
  refine j_iadd g dL_law_493 ?_
  refine j_sld g gs hv1 dL_law_494 ?_
  refine j_aload_n g 0 rfl dL_law_495 ?_
  refine j_iload_n g 3 rfl dL_law_496 ?_
  refine j_iconst g (v := 2) (by decide) dL_law_497 ?_
  refine j_iadd g dL_law_498 ?_
  refine j_sld g gs hv2 dL_law_499 ?_
  refine j_fLI_3 g (As := [.int (xs ((nI (3 * j)) + (1 : Int32)).toNatClampNeg), .int (xs ((nI (3 * j)) + (2 : Int32)).toNatClampNeg)]) (st := []) (c_X5_way h) cl_L_71 0 5 cg_0 rfl rfl (Nat.le_of_ble_eq_true rfl) (Nat.le_of_ble_eq_true rfl) (Nat.le_of_ble_eq_true rfl) (Nat.le_of_ble_eq_true rfl) rfl rfl (Nat.le_of_ble_eq_true rfl) dL_law_500 (fun r1 kw' wd' fw' h => ?_)
  refine j_ws (ws' := (cgW a q sz pr pm kv kn kr kt kb ks kj kw' kg wd' fw' ad bk md cr ow hd ++ mdW b q mtd mnk mva mno mro mtu mbx mst mja mpr mcr mow mhd mmo mbk mca mfr mrs mrk mfe mus mgi maj)) rfl ?_
  refine j_aload_n g 2 rfl dL_law_503 ?_
  refine j_aload_n g 0 rfl dL_law_504 ?_
  refine j_iload_n g 3 rfl dL_law_505 ?_
  refine j_iconst g (v := 1) (by decide) dL_law_506 ?_
  refine j_iadd g dL_law_507 ?_
  refine j_sld g gs hv1 dL_law_508 ?_
  refine j_aload_n g 0 rfl dL_law_509 ?_
  refine j_iload_n g 3 rfl dL_law_510 ?_
  refine j_iconst g (v := 2) (by decide) dL_law_511 ?_
  refine j_iadd g dL_law_512 ?_
  refine j_sld g gs hv2 dL_law_513 ?_
  refine j_fRI_5 g (As := [.int (xs ((nI (3 * j)) + (1 : Int32)).toNatClampNeg), .int (xs ((nI (3 * j)) + (2 : Int32)).toNatClampNeg)]) (st := [.int r1]) (c_X6_way h) cl_L_74 0 6 md_0 rfl rfl (Nat.le_of_ble_eq_true rfl) (Nat.le_of_ble_eq_true rfl) (Nat.le_of_ble_eq_true rfl) (Nat.le_of_ble_eq_true rfl) rfl rfl (Nat.le_of_ble_eq_true rfl) dL_law_514 (fun r2 mtd' mrs' mrk' mfe' mus' h => ?_)
  refine j_ws (ws' := (cgW a q sz pr pm kv kn kr kt kb ks kj kw' kg wd' fw' ad bk md cr ow hd ++ mdW b q mtd' mnk mva mno mro mtu mbx mst mja mpr mcr mow mhd mmo mbk mca mfr mrs' mrk' mfe' mus' mgi maj)) rfl ?_
  refine j_icmp_eq g dL_law_517 (tgt := 762) (by decide) (fun _ => ?_) (fun c => absurd h.1 c)
  exact hX sz pr pm kv kn kr kt kb ks kj kw' kg wd' fw' ad bk md cr ow hd mtd' mnk mva mno mro mtu mbx mst mja mpr mcr mow mhd mmo mbk mca mfr mrs' mrk' mfe' mus' mgi maj h.2
set_option maxRecDepth 20000 in
set_option maxHeartbeats 4000000 in
theorem lw_w14 {Γ : GT} {a b : Nat → Nat} {q : Nat → ClassId} {sc L j : Nat} {xs : Nat → Int32} {N : lwN} (g : gd Γ code RL 4 room_1 q) (gs : gS Γ sc L xs) (hv1 : vp_in (nI (3 * j) + 1) L) (hv2 : vp_in (nI (3 * j) + 2) L) (hX : ∀ (sz : Int32) (pr : Nat → Int32) (pm : Nat → Nat) (kv : Nat → Int32) (kn : Nat → Int32) (kr : Nat → Int32) (kt : Nat → Int32) (kb : Nat → Int32) (ks : Nat → Int32) (kj : Nat → Int32) (kw : Nat → Int32) (kg : Nat → Int32) (wd : Nat → Nat → Int64) (fw : Nat → Nat → Int32) (ad : Nat → Int32) (bk : Nat → Int32) (md : Int32) (cr : Int32) (ow : Int32) (hd : Int32) (mtd : Int32) (mnk : Int32) (mva : Nat → Int32) (mno : Nat → Int32) (mro : Nat → Int32) (mtu : Nat → Int32) (mbx : Nat → Int32) (mst : Nat → Int32) (mja : Nat → Int32) (mpr : Nat → Int32) (mcr : Int32) (mow : Int32) (mhd : Int32) (mmo : Int32) (mbk : Nat → Int32) (mca : Nat → Int32) (mfr : Nat → Int32) (mrs : Int32) (mrk : Nat → Int32) (mfe : Nat → Int32) (mus : Nat → Int32) (mgi : Nat → Int32) (maj : Nat → Int32), N sz pr pm kv kn kr kt kb ks kj kw kg wd fw ad bk md cr ow hd mtd mnk mva mno mro mtu mbx mst mja mpr mcr mow mhd mmo mbk mca mfr mrs mrk mfe mus mgi maj → jw Γ 4 53 15332 (cgW a q sz pr pm kv kn kr kt kb ks kj kw kg wd fw ad bk md cr ow hd ++ mdW b q mtd mnk mva mno mro mtu mbx mst mja mpr mcr mow mhd mmo mbk mca mfr mrs mrk mfe mus mgi maj) [(0, .ref sc), (1, .ref (a 0)), (2, .ref (b 0)), (3, .int (nI (3 * j)))] [] 762) {sz : Int32} {pr : Nat → Int32} {pm : Nat → Nat} {kv : Nat → Int32} {kn : Nat → Int32} {kr : Nat → Int32} {kt : Nat → Int32} {kb : Nat → Int32} {ks : Nat → Int32} {kj : Nat → Int32} {kw : Nat → Int32} {kg : Nat → Int32} {wd : Nat → Nat → Int64} {fw : Nat → Nat → Int32} {ad : Nat → Int32} {bk : Nat → Int32} {md : Int32} {cr : Int32} {ow : Int32} {hd : Int32} {mtd : Int32} {mnk : Int32} {mva : Nat → Int32} {mno : Nat → Int32} {mro : Nat → Int32} {mtu : Nat → Int32} {mbx : Nat → Int32} {mst : Nat → Int32} {mja : Nat → Int32} {mpr : Nat → Int32} {mcr : Int32} {mow : Int32} {mhd : Int32} {mmo : Int32} {mbk : Nat → Int32} {mca : Nat → Int32} {mfr : Nat → Int32} {mrs : Int32} {mrk : Nat → Int32} {mfe : Nat → Int32} {mus : Nat → Int32} {mgi : Nat → Int32} {maj : Nat → Int32} (h : lw_c14 (xs (nI (3 * j) + 1).toNatClampNeg) (xs (nI (3 * j) + 2).toNatClampNeg) sz pr pm kv kn kr kt kb ks kj kw kg wd fw ad bk md cr ow hd mtd mnk mva mno mro mtu mbx mst mja mpr mcr mow mhd mmo mbk mca mfr mrs mrk mfe mus mgi maj N) : jw Γ 4 53 15332 (cgW a q sz pr pm kv kn kr kt kb ks kj kw kg wd fw ad bk md cr ow hd ++ mdW b q mtd mnk mva mno mro mtu mbx mst mja mpr mcr mow mhd mmo mbk mca mfr mrs mrk mfe mus mgi maj) [(0, .ref sc), (1, .ref (a 0)), (2, .ref (b 0)), (3, .int (nI (3 * j)))] [] 522 := by
  unfold lw_c14 at h
  refine j_aload_n g 1 rfl dL_law_522 ?_
  refine j_aload_n g 0 rfl dL_law_523 ?_
  refine j_iload_n g 3 rfl dL_law_524 ?_
  refine j_iconst g (v := 1) (by decide) dL_law_525 ?_
  refine j_iadd g dL_law_526 ?_
  refine j_sld g gs hv1 dL_law_527 ?_
  refine j_fLI_3 g (As := [.int (xs ((nI (3 * j)) + (1 : Int32)).toNatClampNeg)]) (st := []) (c_X5_coins h) cl_L_75 0 5 cg_0 rfl rfl (Nat.le_of_ble_eq_true rfl) (Nat.le_of_ble_eq_true rfl) (Nat.le_of_ble_eq_true rfl) (Nat.le_of_ble_eq_true rfl) rfl rfl (Nat.le_of_ble_eq_true rfl) dL_law_528 (fun r1 kw' wd' fw' h => ?_)
  refine j_ws (ws' := (cgW a q sz pr pm kv kn kr kt kb ks kj kw' kg wd' fw' ad bk md cr ow hd ++ mdW b q mtd mnk mva mno mro mtu mbx mst mja mpr mcr mow mhd mmo mbk mca mfr mrs mrk mfe mus mgi maj)) rfl ?_
  refine j_aload_n g 2 rfl dL_law_531 ?_
  refine j_aload_n g 0 rfl dL_law_532 ?_
  refine j_iload_n g 3 rfl dL_law_533 ?_
  refine j_iconst g (v := 1) (by decide) dL_law_534 ?_
  refine j_iadd g dL_law_535 ?_
  refine j_sld g gs hv1 dL_law_536 ?_
  refine j_fRI_5 g (As := [.int (xs ((nI (3 * j)) + (1 : Int32)).toNatClampNeg)]) (st := [.int r1]) (c_X6_coins h) cl_L_78 0 6 md_0 rfl rfl (Nat.le_of_ble_eq_true rfl) (Nat.le_of_ble_eq_true rfl) (Nat.le_of_ble_eq_true rfl) (Nat.le_of_ble_eq_true rfl) rfl rfl (Nat.le_of_ble_eq_true rfl) dL_law_537 (fun r2 mtd' mrs' mrk' mfe' mus' h => ?_)
  refine j_ws (ws' := (cgW a q sz pr pm kv kn kr kt kb ks kj kw' kg wd' fw' ad bk md cr ow hd ++ mdW b q mtd' mnk mva mno mro mtu mbx mst mja mpr mcr mow mhd mmo mbk mca mfr mrs' mrk' mfe' mus' mgi maj)) rfl ?_
  refine j_icmp_eq g dL_law_540 (tgt := 762) (by decide) (fun _ => ?_) (fun c => absurd h.1 c)
  exact hX sz pr pm kv kn kr kt kb ks kj kw' kg wd' fw' ad bk md cr ow hd mtd' mnk mva mno mro mtu mbx mst mja mpr mcr mow mhd mmo mbk mca mfr mrs' mrk' mfe' mus' mgi maj h.2
set_option maxRecDepth 20000 in
set_option maxHeartbeats 4000000 in
theorem lw_w15 {Γ : GT} {a b : Nat → Nat} {q : Nat → ClassId} {sc L j : Nat} {xs : Nat → Int32} {N : lwN} (g : gd Γ code RL 4 room_1 q) (gs : gS Γ sc L xs) (hv1 : vp_in (nI (3 * j) + 1) L) (hv2 : vp_in (nI (3 * j) + 2) L) (hX : ∀ (sz : Int32) (pr : Nat → Int32) (pm : Nat → Nat) (kv : Nat → Int32) (kn : Nat → Int32) (kr : Nat → Int32) (kt : Nat → Int32) (kb : Nat → Int32) (ks : Nat → Int32) (kj : Nat → Int32) (kw : Nat → Int32) (kg : Nat → Int32) (wd : Nat → Nat → Int64) (fw : Nat → Nat → Int32) (ad : Nat → Int32) (bk : Nat → Int32) (md : Int32) (cr : Int32) (ow : Int32) (hd : Int32) (mtd : Int32) (mnk : Int32) (mva : Nat → Int32) (mno : Nat → Int32) (mro : Nat → Int32) (mtu : Nat → Int32) (mbx : Nat → Int32) (mst : Nat → Int32) (mja : Nat → Int32) (mpr : Nat → Int32) (mcr : Int32) (mow : Int32) (mhd : Int32) (mmo : Int32) (mbk : Nat → Int32) (mca : Nat → Int32) (mfr : Nat → Int32) (mrs : Int32) (mrk : Nat → Int32) (mfe : Nat → Int32) (mus : Nat → Int32) (mgi : Nat → Int32) (maj : Nat → Int32), N sz pr pm kv kn kr kt kb ks kj kw kg wd fw ad bk md cr ow hd mtd mnk mva mno mro mtu mbx mst mja mpr mcr mow mhd mmo mbk mca mfr mrs mrk mfe mus mgi maj → jw Γ 4 53 15332 (cgW a q sz pr pm kv kn kr kt kb ks kj kw kg wd fw ad bk md cr ow hd ++ mdW b q mtd mnk mva mno mro mtu mbx mst mja mpr mcr mow mhd mmo mbk mca mfr mrs mrk mfe mus mgi maj) [(0, .ref sc), (1, .ref (a 0)), (2, .ref (b 0)), (3, .int (nI (3 * j)))] [] 762) {sz : Int32} {pr : Nat → Int32} {pm : Nat → Nat} {kv : Nat → Int32} {kn : Nat → Int32} {kr : Nat → Int32} {kt : Nat → Int32} {kb : Nat → Int32} {ks : Nat → Int32} {kj : Nat → Int32} {kw : Nat → Int32} {kg : Nat → Int32} {wd : Nat → Nat → Int64} {fw : Nat → Nat → Int32} {ad : Nat → Int32} {bk : Nat → Int32} {md : Int32} {cr : Int32} {ow : Int32} {hd : Int32} {mtd : Int32} {mnk : Int32} {mva : Nat → Int32} {mno : Nat → Int32} {mro : Nat → Int32} {mtu : Nat → Int32} {mbx : Nat → Int32} {mst : Nat → Int32} {mja : Nat → Int32} {mpr : Nat → Int32} {mcr : Int32} {mow : Int32} {mhd : Int32} {mmo : Int32} {mbk : Nat → Int32} {mca : Nat → Int32} {mfr : Nat → Int32} {mrs : Int32} {mrk : Nat → Int32} {mfe : Nat → Int32} {mus : Nat → Int32} {mgi : Nat → Int32} {maj : Nat → Int32} (h : lw_c15 (xs (nI (3 * j) + 1).toNatClampNeg) (xs (nI (3 * j) + 2).toNatClampNeg) sz pr pm kv kn kr kt kb ks kj kw kg wd fw ad bk md cr ow hd mtd mnk mva mno mro mtu mbx mst mja mpr mcr mow mhd mmo mbk mca mfr mrs mrk mfe mus mgi maj N) : jw Γ 4 53 15332 (cgW a q sz pr pm kv kn kr kt kb ks kj kw kg wd fw ad bk md cr ow hd ++ mdW b q mtd mnk mva mno mro mtu mbx mst mja mpr mcr mow mhd mmo mbk mca mfr mrs mrk mfe mus mgi maj) [(0, .ref sc), (1, .ref (a 0)), (2, .ref (b 0)), (3, .int (nI (3 * j)))] [] 545 := by
  unfold lw_c15 at h
  refine j_aload_n g 1 rfl dL_law_545 ?_
  refine j_aload_n g 0 rfl dL_law_546 ?_
  refine j_iload_n g 3 rfl dL_law_547 ?_
  refine j_iconst g (v := 1) (by decide) dL_law_548 ?_
  refine j_iadd g dL_law_549 ?_
  refine j_sld g gs hv1 dL_law_550 ?_
  refine j_fLI_1 g (As := [.int (xs ((nI (3 * j)) + (1 : Int32)).toNatClampNeg)]) (st := []) (c_X5_givable h) cl_L_79 0 5 cg_0 rfl rfl (Nat.le_of_ble_eq_true rfl) (Nat.le_of_ble_eq_true rfl) (Nat.le_of_ble_eq_true rfl) (Nat.le_of_ble_eq_true rfl) rfl rfl (Nat.le_of_ble_eq_true rfl) dL_law_551 (fun r1 wd' h => ?_)
  refine j_ws (ws' := (cgW a q sz pr pm kv kn kr kt kb ks kj kw kg wd' fw ad bk md cr ow hd ++ mdW b q mtd mnk mva mno mro mtu mbx mst mja mpr mcr mow mhd mmo mbk mca mfr mrs mrk mfe mus mgi maj)) rfl ?_
  refine j_aload_n g 2 rfl dL_law_554 ?_
  refine j_aload_n g 0 rfl dL_law_555 ?_
  refine j_iload_n g 3 rfl dL_law_556 ?_
  refine j_iconst g (v := 1) (by decide) dL_law_557 ?_
  refine j_iadd g dL_law_558 ?_
  refine j_sld g gs hv1 dL_law_559 ?_
  refine j_fRI_3 g (As := [.int (xs ((nI (3 * j)) + (1 : Int32)).toNatClampNeg)]) (st := [.int r1]) (c_X6_givable h) cl_L_82 0 6 md_0 rfl rfl (Nat.le_of_ble_eq_true rfl) (Nat.le_of_ble_eq_true rfl) (Nat.le_of_ble_eq_true rfl) (Nat.le_of_ble_eq_true rfl) rfl rfl (Nat.le_of_ble_eq_true rfl) dL_law_560 (fun r2 mtd' mca' mfr' h => ?_)
  refine j_ws (ws' := (cgW a q sz pr pm kv kn kr kt kb ks kj kw kg wd' fw ad bk md cr ow hd ++ mdW b q mtd' mnk mva mno mro mtu mbx mst mja mpr mcr mow mhd mmo mbk mca' mfr' mrs mrk mfe mus mgi maj)) rfl ?_
  refine j_icmp_eq g dL_law_563 (tgt := 762) (by decide) (fun _ => ?_) (fun c => absurd h.1 c)
  exact hX sz pr pm kv kn kr kt kb ks kj kw kg wd' fw ad bk md cr ow hd mtd' mnk mva mno mro mtu mbx mst mja mpr mcr mow mhd mmo mbk mca' mfr' mrs mrk mfe mus mgi maj h.2
set_option maxRecDepth 20000 in
set_option maxHeartbeats 4000000 in
theorem lw_w16 {Γ : GT} {a b : Nat → Nat} {q : Nat → ClassId} {sc L j : Nat} {xs : Nat → Int32} {N : lwN} (g : gd Γ code RL 4 room_1 q) (gs : gS Γ sc L xs) (hv1 : vp_in (nI (3 * j) + 1) L) (hv2 : vp_in (nI (3 * j) + 2) L) (hX : ∀ (sz : Int32) (pr : Nat → Int32) (pm : Nat → Nat) (kv : Nat → Int32) (kn : Nat → Int32) (kr : Nat → Int32) (kt : Nat → Int32) (kb : Nat → Int32) (ks : Nat → Int32) (kj : Nat → Int32) (kw : Nat → Int32) (kg : Nat → Int32) (wd : Nat → Nat → Int64) (fw : Nat → Nat → Int32) (ad : Nat → Int32) (bk : Nat → Int32) (md : Int32) (cr : Int32) (ow : Int32) (hd : Int32) (mtd : Int32) (mnk : Int32) (mva : Nat → Int32) (mno : Nat → Int32) (mro : Nat → Int32) (mtu : Nat → Int32) (mbx : Nat → Int32) (mst : Nat → Int32) (mja : Nat → Int32) (mpr : Nat → Int32) (mcr : Int32) (mow : Int32) (mhd : Int32) (mmo : Int32) (mbk : Nat → Int32) (mca : Nat → Int32) (mfr : Nat → Int32) (mrs : Int32) (mrk : Nat → Int32) (mfe : Nat → Int32) (mus : Nat → Int32) (mgi : Nat → Int32) (maj : Nat → Int32), N sz pr pm kv kn kr kt kb ks kj kw kg wd fw ad bk md cr ow hd mtd mnk mva mno mro mtu mbx mst mja mpr mcr mow mhd mmo mbk mca mfr mrs mrk mfe mus mgi maj → jw Γ 4 53 15332 (cgW a q sz pr pm kv kn kr kt kb ks kj kw kg wd fw ad bk md cr ow hd ++ mdW b q mtd mnk mva mno mro mtu mbx mst mja mpr mcr mow mhd mmo mbk mca mfr mrs mrk mfe mus mgi maj) [(0, .ref sc), (1, .ref (a 0)), (2, .ref (b 0)), (3, .int (nI (3 * j)))] [] 762) {sz : Int32} {pr : Nat → Int32} {pm : Nat → Nat} {kv : Nat → Int32} {kn : Nat → Int32} {kr : Nat → Int32} {kt : Nat → Int32} {kb : Nat → Int32} {ks : Nat → Int32} {kj : Nat → Int32} {kw : Nat → Int32} {kg : Nat → Int32} {wd : Nat → Nat → Int64} {fw : Nat → Nat → Int32} {ad : Nat → Int32} {bk : Nat → Int32} {md : Int32} {cr : Int32} {ow : Int32} {hd : Int32} {mtd : Int32} {mnk : Int32} {mva : Nat → Int32} {mno : Nat → Int32} {mro : Nat → Int32} {mtu : Nat → Int32} {mbx : Nat → Int32} {mst : Nat → Int32} {mja : Nat → Int32} {mpr : Nat → Int32} {mcr : Int32} {mow : Int32} {mhd : Int32} {mmo : Int32} {mbk : Nat → Int32} {mca : Nat → Int32} {mfr : Nat → Int32} {mrs : Int32} {mrk : Nat → Int32} {mfe : Nat → Int32} {mus : Nat → Int32} {mgi : Nat → Int32} {maj : Nat → Int32} (h : lw_c16 (xs (nI (3 * j) + 1).toNatClampNeg) (xs (nI (3 * j) + 2).toNatClampNeg) sz pr pm kv kn kr kt kb ks kj kw kg wd fw ad bk md cr ow hd mtd mnk mva mno mro mtu mbx mst mja mpr mcr mow mhd mmo mbk mca mfr mrs mrk mfe mus mgi maj N) : jw Γ 4 53 15332 (cgW a q sz pr pm kv kn kr kt kb ks kj kw kg wd fw ad bk md cr ow hd ++ mdW b q mtd mnk mva mno mro mtu mbx mst mja mpr mcr mow mhd mmo mbk mca mfr mrs mrk mfe mus mgi maj) [(0, .ref sc), (1, .ref (a 0)), (2, .ref (b 0)), (3, .int (nI (3 * j)))] [] 568 := by
  unfold lw_c16 at h
  refine j_aload_n g 1 rfl dL_law_568 ?_
  refine j_fLZ_2 g (As := []) (st := []) (c_X5_light h) cl_L_83 0 5 cg_0 rfl rfl (Nat.le_of_ble_eq_true rfl) (Nat.le_of_ble_eq_true rfl) (Nat.le_of_ble_eq_true rfl) (Nat.le_of_ble_eq_true rfl) rfl rfl (Nat.le_of_ble_eq_true rfl) dL_law_569 (fun r1 wd' ad' _ h => ?_)
  refine j_ws (ws' := (cgW a q sz pr pm kv kn kr kt kb ks kj kw kg wd' fw ad' bk md cr ow hd ++ mdW b q mtd mnk mva mno mro mtu mbx mst mja mpr mcr mow mhd mmo mbk mca mfr mrs mrk mfe mus mgi maj)) rfl ?_
  refine j_aload_n g 2 rfl dL_law_572 ?_
  refine j_fRZ_4 g (As := []) (st := [.int r1]) (c_X6_light h) cl_L_87 0 6 md_0 rfl rfl (Nat.le_of_ble_eq_true rfl) (Nat.le_of_ble_eq_true rfl) (Nat.le_of_ble_eq_true rfl) (Nat.le_of_ble_eq_true rfl) rfl rfl (Nat.le_of_ble_eq_true rfl) dL_law_573 (fun r2 mtd' mtu' mca' mfr' _ h => ?_)
  refine j_ws (ws' := (cgW a q sz pr pm kv kn kr kt kb ks kj kw kg wd' fw ad' bk md cr ow hd ++ mdW b q mtd' mnk mva mno mro mtu' mbx mst mja mpr mcr mow mhd mmo mbk mca' mfr' mrs mrk mfe mus mgi maj)) rfl ?_
  refine j_icmp_eq g dL_law_576 (tgt := 762) (by decide) (fun _ => ?_) (fun c => absurd h.1 c)
  exact hX sz pr pm kv kn kr kt kb ks kj kw kg wd' fw ad' bk md cr ow hd mtd' mnk mva mno mro mtu' mbx mst mja mpr mcr mow mhd mmo mbk mca' mfr' mrs mrk mfe mus mgi maj h.2
set_option maxRecDepth 20000 in
set_option maxHeartbeats 4000000 in
theorem lw_w17 {Γ : GT} {a b : Nat → Nat} {q : Nat → ClassId} {sc L j : Nat} {xs : Nat → Int32} {N : lwN} (g : gd Γ code RL 4 room_1 q) (gs : gS Γ sc L xs) (hv1 : vp_in (nI (3 * j) + 1) L) (hv2 : vp_in (nI (3 * j) + 2) L) (hX : ∀ (sz : Int32) (pr : Nat → Int32) (pm : Nat → Nat) (kv : Nat → Int32) (kn : Nat → Int32) (kr : Nat → Int32) (kt : Nat → Int32) (kb : Nat → Int32) (ks : Nat → Int32) (kj : Nat → Int32) (kw : Nat → Int32) (kg : Nat → Int32) (wd : Nat → Nat → Int64) (fw : Nat → Nat → Int32) (ad : Nat → Int32) (bk : Nat → Int32) (md : Int32) (cr : Int32) (ow : Int32) (hd : Int32) (mtd : Int32) (mnk : Int32) (mva : Nat → Int32) (mno : Nat → Int32) (mro : Nat → Int32) (mtu : Nat → Int32) (mbx : Nat → Int32) (mst : Nat → Int32) (mja : Nat → Int32) (mpr : Nat → Int32) (mcr : Int32) (mow : Int32) (mhd : Int32) (mmo : Int32) (mbk : Nat → Int32) (mca : Nat → Int32) (mfr : Nat → Int32) (mrs : Int32) (mrk : Nat → Int32) (mfe : Nat → Int32) (mus : Nat → Int32) (mgi : Nat → Int32) (maj : Nat → Int32), N sz pr pm kv kn kr kt kb ks kj kw kg wd fw ad bk md cr ow hd mtd mnk mva mno mro mtu mbx mst mja mpr mcr mow mhd mmo mbk mca mfr mrs mrk mfe mus mgi maj → jw Γ 4 53 15332 (cgW a q sz pr pm kv kn kr kt kb ks kj kw kg wd fw ad bk md cr ow hd ++ mdW b q mtd mnk mva mno mro mtu mbx mst mja mpr mcr mow mhd mmo mbk mca mfr mrs mrk mfe mus mgi maj) [(0, .ref sc), (1, .ref (a 0)), (2, .ref (b 0)), (3, .int (nI (3 * j)))] [] 762) {sz : Int32} {pr : Nat → Int32} {pm : Nat → Nat} {kv : Nat → Int32} {kn : Nat → Int32} {kr : Nat → Int32} {kt : Nat → Int32} {kb : Nat → Int32} {ks : Nat → Int32} {kj : Nat → Int32} {kw : Nat → Int32} {kg : Nat → Int32} {wd : Nat → Nat → Int64} {fw : Nat → Nat → Int32} {ad : Nat → Int32} {bk : Nat → Int32} {md : Int32} {cr : Int32} {ow : Int32} {hd : Int32} {mtd : Int32} {mnk : Int32} {mva : Nat → Int32} {mno : Nat → Int32} {mro : Nat → Int32} {mtu : Nat → Int32} {mbx : Nat → Int32} {mst : Nat → Int32} {mja : Nat → Int32} {mpr : Nat → Int32} {mcr : Int32} {mow : Int32} {mhd : Int32} {mmo : Int32} {mbk : Nat → Int32} {mca : Nat → Int32} {mfr : Nat → Int32} {mrs : Int32} {mrk : Nat → Int32} {mfe : Nat → Int32} {mus : Nat → Int32} {mgi : Nat → Int32} {maj : Nat → Int32} (h : lw_c17 (xs (nI (3 * j) + 1).toNatClampNeg) (xs (nI (3 * j) + 2).toNatClampNeg) sz pr pm kv kn kr kt kb ks kj kw kg wd fw ad bk md cr ow hd mtd mnk mva mno mro mtu mbx mst mja mpr mcr mow mhd mmo mbk mca mfr mrs mrk mfe mus mgi maj N) : jw Γ 4 53 15332 (cgW a q sz pr pm kv kn kr kt kb ks kj kw kg wd fw ad bk md cr ow hd ++ mdW b q mtd mnk mva mno mro mtu mbx mst mja mpr mcr mow mhd mmo mbk mca mfr mrs mrk mfe mus mgi maj) [(0, .ref sc), (1, .ref (a 0)), (2, .ref (b 0)), (3, .int (nI (3 * j)))] [] 581 := by
  unfold lw_c17 at h
  refine j_aload_n g 1 rfl dL_law_581 ?_
  refine j_aload_n g 0 rfl dL_law_582 ?_
  refine j_iload_n g 3 rfl dL_law_583 ?_
  refine j_iconst g (v := 1) (by decide) dL_law_584 ?_
  refine j_iadd g dL_law_585 ?_
  refine j_sld g gs hv1 dL_law_586 ?_
  refine j_fLI_2 g (As := [.int (xs ((nI (3 * j)) + (1 : Int32)).toNatClampNeg)]) (st := []) (c_X5_need h) cl_L_88 0 5 cg_0 rfl rfl (Nat.le_of_ble_eq_true rfl) (Nat.le_of_ble_eq_true rfl) (Nat.le_of_ble_eq_true rfl) (Nat.le_of_ble_eq_true rfl) rfl rfl (Nat.le_of_ble_eq_true rfl) dL_law_587 (fun r1 wd' ad' h => ?_)
  refine j_ws (ws' := (cgW a q sz pr pm kv kn kr kt kb ks kj kw kg wd' fw ad' bk md cr ow hd ++ mdW b q mtd mnk mva mno mro mtu mbx mst mja mpr mcr mow mhd mmo mbk mca mfr mrs mrk mfe mus mgi maj)) rfl ?_
  refine j_aload_n g 2 rfl dL_law_590 ?_
  refine j_aload_n g 0 rfl dL_law_591 ?_
  refine j_iload_n g 3 rfl dL_law_592 ?_
  refine j_iconst g (v := 1) (by decide) dL_law_593 ?_
  refine j_iadd g dL_law_594 ?_
  refine j_sld g gs hv1 dL_law_595 ?_
  refine j_fRI_5 g (As := [.int (xs ((nI (3 * j)) + (1 : Int32)).toNatClampNeg)]) (st := [.int r1]) (c_X6_need h) cl_L_91 0 6 md_0 rfl rfl (Nat.le_of_ble_eq_true rfl) (Nat.le_of_ble_eq_true rfl) (Nat.le_of_ble_eq_true rfl) (Nat.le_of_ble_eq_true rfl) rfl rfl (Nat.le_of_ble_eq_true rfl) dL_law_596 (fun r2 mtd' mtu' mca' mfr' maj' h => ?_)
  refine j_ws (ws' := (cgW a q sz pr pm kv kn kr kt kb ks kj kw kg wd' fw ad' bk md cr ow hd ++ mdW b q mtd' mnk mva mno mro mtu' mbx mst mja mpr mcr mow mhd mmo mbk mca' mfr' mrs mrk mfe mus mgi maj')) rfl ?_
  refine j_icmp_eq g dL_law_599 (tgt := 762) (by decide) (fun _ => ?_) (fun c => absurd h.1 c)
  exact hX sz pr pm kv kn kr kt kb ks kj kw kg wd' fw ad' bk md cr ow hd mtd' mnk mva mno mro mtu' mbx mst mja mpr mcr mow mhd mmo mbk mca' mfr' mrs mrk mfe mus mgi maj' h.2
set_option maxRecDepth 20000 in
set_option maxHeartbeats 4000000 in
theorem lw_w18 {Γ : GT} {a b : Nat → Nat} {q : Nat → ClassId} {sc L j : Nat} {xs : Nat → Int32} {N : lwN} (g : gd Γ code RL 4 room_1 q) (gs : gS Γ sc L xs) (hv1 : vp_in (nI (3 * j) + 1) L) (hv2 : vp_in (nI (3 * j) + 2) L) (hX : ∀ (sz : Int32) (pr : Nat → Int32) (pm : Nat → Nat) (kv : Nat → Int32) (kn : Nat → Int32) (kr : Nat → Int32) (kt : Nat → Int32) (kb : Nat → Int32) (ks : Nat → Int32) (kj : Nat → Int32) (kw : Nat → Int32) (kg : Nat → Int32) (wd : Nat → Nat → Int64) (fw : Nat → Nat → Int32) (ad : Nat → Int32) (bk : Nat → Int32) (md : Int32) (cr : Int32) (ow : Int32) (hd : Int32) (mtd : Int32) (mnk : Int32) (mva : Nat → Int32) (mno : Nat → Int32) (mro : Nat → Int32) (mtu : Nat → Int32) (mbx : Nat → Int32) (mst : Nat → Int32) (mja : Nat → Int32) (mpr : Nat → Int32) (mcr : Int32) (mow : Int32) (mhd : Int32) (mmo : Int32) (mbk : Nat → Int32) (mca : Nat → Int32) (mfr : Nat → Int32) (mrs : Int32) (mrk : Nat → Int32) (mfe : Nat → Int32) (mus : Nat → Int32) (mgi : Nat → Int32) (maj : Nat → Int32), N sz pr pm kv kn kr kt kb ks kj kw kg wd fw ad bk md cr ow hd mtd mnk mva mno mro mtu mbx mst mja mpr mcr mow mhd mmo mbk mca mfr mrs mrk mfe mus mgi maj → jw Γ 4 53 15332 (cgW a q sz pr pm kv kn kr kt kb ks kj kw kg wd fw ad bk md cr ow hd ++ mdW b q mtd mnk mva mno mro mtu mbx mst mja mpr mcr mow mhd mmo mbk mca mfr mrs mrk mfe mus mgi maj) [(0, .ref sc), (1, .ref (a 0)), (2, .ref (b 0)), (3, .int (nI (3 * j)))] [] 762) {sz : Int32} {pr : Nat → Int32} {pm : Nat → Nat} {kv : Nat → Int32} {kn : Nat → Int32} {kr : Nat → Int32} {kt : Nat → Int32} {kb : Nat → Int32} {ks : Nat → Int32} {kj : Nat → Int32} {kw : Nat → Int32} {kg : Nat → Int32} {wd : Nat → Nat → Int64} {fw : Nat → Nat → Int32} {ad : Nat → Int32} {bk : Nat → Int32} {md : Int32} {cr : Int32} {ow : Int32} {hd : Int32} {mtd : Int32} {mnk : Int32} {mva : Nat → Int32} {mno : Nat → Int32} {mro : Nat → Int32} {mtu : Nat → Int32} {mbx : Nat → Int32} {mst : Nat → Int32} {mja : Nat → Int32} {mpr : Nat → Int32} {mcr : Int32} {mow : Int32} {mhd : Int32} {mmo : Int32} {mbk : Nat → Int32} {mca : Nat → Int32} {mfr : Nat → Int32} {mrs : Int32} {mrk : Nat → Int32} {mfe : Nat → Int32} {mus : Nat → Int32} {mgi : Nat → Int32} {maj : Nat → Int32} (h : lw_c18 (xs (nI (3 * j) + 1).toNatClampNeg) (xs (nI (3 * j) + 2).toNatClampNeg) sz pr pm kv kn kr kt kb ks kj kw kg wd fw ad bk md cr ow hd mtd mnk mva mno mro mtu mbx mst mja mpr mcr mow mhd mmo mbk mca mfr mrs mrk mfe mus mgi maj N) : jw Γ 4 53 15332 (cgW a q sz pr pm kv kn kr kt kb ks kj kw kg wd fw ad bk md cr ow hd ++ mdW b q mtd mnk mva mno mro mtu mbx mst mja mpr mcr mow mhd mmo mbk mca mfr mrs mrk mfe mus mgi maj) [(0, .ref sc), (1, .ref (a 0)), (2, .ref (b 0)), (3, .int (nI (3 * j)))] [] 604 := by
  unfold lw_c18 at h
  refine j_aload_n g 1 rfl dL_law_604 ?_
  refine j_aload_n g 0 rfl dL_law_605 ?_
  refine j_iload_n g 3 rfl dL_law_606 ?_
  refine j_iconst g (v := 1) (by decide) dL_law_607 ?_
  refine j_iadd g dL_law_608 ?_
  refine j_sld g gs hv1 dL_law_609 ?_
  refine j_fLI_0 g (As := [.int (xs ((nI (3 * j)) + (1 : Int32)).toNatClampNeg)]) (st := []) (c_X5_look h) cl_L_92 0 5 cg_0 rfl rfl (Nat.le_of_ble_eq_true rfl) (Nat.le_of_ble_eq_true rfl) (Nat.le_of_ble_eq_true rfl) (Nat.le_of_ble_eq_true rfl) rfl rfl (Nat.le_of_ble_eq_true rfl) dL_law_610 (fun r1  h => ?_)
  refine j_aload_n g 2 rfl dL_law_613 ?_
  refine j_aload_n g 0 rfl dL_law_614 ?_
  refine j_iload_n g 3 rfl dL_law_615 ?_
  refine j_iconst g (v := 1) (by decide) dL_law_616 ?_
  refine j_iadd g dL_law_617 ?_
  refine j_sld g gs hv1 dL_law_618 ?_
  refine j_fRI_1 g (As := [.int (xs ((nI (3 * j)) + (1 : Int32)).toNatClampNeg)]) (st := [.int r1]) (c_X6_look h) cl_L_95 0 6 md_0 rfl rfl (Nat.le_of_ble_eq_true rfl) (Nat.le_of_ble_eq_true rfl) (Nat.le_of_ble_eq_true rfl) (Nat.le_of_ble_eq_true rfl) rfl rfl (Nat.le_of_ble_eq_true rfl) dL_law_619 (fun r2 mtd' h => ?_)
  refine j_ws (ws' := (cgW a q sz pr pm kv kn kr kt kb ks kj kw kg wd fw ad bk md cr ow hd ++ mdW b q mtd' mnk mva mno mro mtu mbx mst mja mpr mcr mow mhd mmo mbk mca mfr mrs mrk mfe mus mgi maj)) rfl ?_
  refine j_icmp_eq g dL_law_622 (tgt := 762) (by decide) (fun _ => ?_) (fun c => absurd h.1 c)
  exact hX sz pr pm kv kn kr kt kb ks kj kw kg wd fw ad bk md cr ow hd mtd' mnk mva mno mro mtu mbx mst mja mpr mcr mow mhd mmo mbk mca mfr mrs mrk mfe mus mgi maj h.2
set_option maxRecDepth 20000 in
set_option maxHeartbeats 4000000 in
theorem lw_w19 {Γ : GT} {a b : Nat → Nat} {q : Nat → ClassId} {sc L j : Nat} {xs : Nat → Int32} {N : lwN} (g : gd Γ code RL 4 room_1 q) (gs : gS Γ sc L xs) (hv1 : vp_in (nI (3 * j) + 1) L) (hv2 : vp_in (nI (3 * j) + 2) L) (hX : ∀ (sz : Int32) (pr : Nat → Int32) (pm : Nat → Nat) (kv : Nat → Int32) (kn : Nat → Int32) (kr : Nat → Int32) (kt : Nat → Int32) (kb : Nat → Int32) (ks : Nat → Int32) (kj : Nat → Int32) (kw : Nat → Int32) (kg : Nat → Int32) (wd : Nat → Nat → Int64) (fw : Nat → Nat → Int32) (ad : Nat → Int32) (bk : Nat → Int32) (md : Int32) (cr : Int32) (ow : Int32) (hd : Int32) (mtd : Int32) (mnk : Int32) (mva : Nat → Int32) (mno : Nat → Int32) (mro : Nat → Int32) (mtu : Nat → Int32) (mbx : Nat → Int32) (mst : Nat → Int32) (mja : Nat → Int32) (mpr : Nat → Int32) (mcr : Int32) (mow : Int32) (mhd : Int32) (mmo : Int32) (mbk : Nat → Int32) (mca : Nat → Int32) (mfr : Nat → Int32) (mrs : Int32) (mrk : Nat → Int32) (mfe : Nat → Int32) (mus : Nat → Int32) (mgi : Nat → Int32) (maj : Nat → Int32), N sz pr pm kv kn kr kt kb ks kj kw kg wd fw ad bk md cr ow hd mtd mnk mva mno mro mtu mbx mst mja mpr mcr mow mhd mmo mbk mca mfr mrs mrk mfe mus mgi maj → jw Γ 4 53 15332 (cgW a q sz pr pm kv kn kr kt kb ks kj kw kg wd fw ad bk md cr ow hd ++ mdW b q mtd mnk mva mno mro mtu mbx mst mja mpr mcr mow mhd mmo mbk mca mfr mrs mrk mfe mus mgi maj) [(0, .ref sc), (1, .ref (a 0)), (2, .ref (b 0)), (3, .int (nI (3 * j)))] [] 762) {sz : Int32} {pr : Nat → Int32} {pm : Nat → Nat} {kv : Nat → Int32} {kn : Nat → Int32} {kr : Nat → Int32} {kt : Nat → Int32} {kb : Nat → Int32} {ks : Nat → Int32} {kj : Nat → Int32} {kw : Nat → Int32} {kg : Nat → Int32} {wd : Nat → Nat → Int64} {fw : Nat → Nat → Int32} {ad : Nat → Int32} {bk : Nat → Int32} {md : Int32} {cr : Int32} {ow : Int32} {hd : Int32} {mtd : Int32} {mnk : Int32} {mva : Nat → Int32} {mno : Nat → Int32} {mro : Nat → Int32} {mtu : Nat → Int32} {mbx : Nat → Int32} {mst : Nat → Int32} {mja : Nat → Int32} {mpr : Nat → Int32} {mcr : Int32} {mow : Int32} {mhd : Int32} {mmo : Int32} {mbk : Nat → Int32} {mca : Nat → Int32} {mfr : Nat → Int32} {mrs : Int32} {mrk : Nat → Int32} {mfe : Nat → Int32} {mus : Nat → Int32} {mgi : Nat → Int32} {maj : Nat → Int32} (h : lw_c19 (xs (nI (3 * j) + 1).toNatClampNeg) (xs (nI (3 * j) + 2).toNatClampNeg) sz pr pm kv kn kr kt kb ks kj kw kg wd fw ad bk md cr ow hd mtd mnk mva mno mro mtu mbx mst mja mpr mcr mow mhd mmo mbk mca mfr mrs mrk mfe mus mgi maj N) : jw Γ 4 53 15332 (cgW a q sz pr pm kv kn kr kt kb ks kj kw kg wd fw ad bk md cr ow hd ++ mdW b q mtd mnk mva mno mro mtu mbx mst mja mpr mcr mow mhd mmo mbk mca mfr mrs mrk mfe mus mgi maj) [(0, .ref sc), (1, .ref (a 0)), (2, .ref (b 0)), (3, .int (nI (3 * j)))] [] 627 := by
  unfold lw_c19 at h
  refine j_aload_n g 1 rfl dL_law_627 ?_
  refine j_aload_n g 0 rfl dL_law_628 ?_
  refine j_iload_n g 3 rfl dL_law_629 ?_
  refine j_iconst g (v := 1) (by decide) dL_law_630 ?_
  refine j_iadd g dL_law_631 ?_
  refine j_sld g gs hv1 dL_law_632 ?_
  refine j_aload_n g 0 rfl dL_law_633 ?_
  refine j_iload_n g 3 rfl dL_law_634 ?_
  refine j_iconst g (v := 2) (by decide) dL_law_635 ?_
  refine j_iadd g dL_law_636 ?_
  refine j_sld g gs hv2 dL_law_637 ?_
  refine j_fLI_0 g (As := [.int (xs ((nI (3 * j)) + (1 : Int32)).toNatClampNeg), .int (xs ((nI (3 * j)) + (2 : Int32)).toNatClampNeg)]) (st := []) (c_X5_kind h) cl_L_96 0 5 cg_0 rfl rfl (Nat.le_of_ble_eq_true rfl) (Nat.le_of_ble_eq_true rfl) (Nat.le_of_ble_eq_true rfl) (Nat.le_of_ble_eq_true rfl) rfl rfl (Nat.le_of_ble_eq_true rfl) dL_law_638 (fun r1  h => ?_)
  refine j_aload_n g 2 rfl dL_law_641 ?_
  refine j_aload_n g 0 rfl dL_law_642 ?_
  refine j_iload_n g 3 rfl dL_law_643 ?_
  refine j_iconst g (v := 1) (by decide) dL_law_644 ?_
  refine j_iadd g dL_law_645 ?_
  refine j_sld g gs hv1 dL_law_646 ?_
  refine j_aload_n g 0 rfl dL_law_647 ?_
  refine j_iload_n g 3 rfl dL_law_648 ?_
  refine j_iconst g (v := 2) (by decide) dL_law_649 ?_
  refine j_iadd g dL_law_650 ?_
  refine j_sld g gs hv2 dL_law_651 ?_
  refine j_fRI_1 g (As := [.int (xs ((nI (3 * j)) + (1 : Int32)).toNatClampNeg), .int (xs ((nI (3 * j)) + (2 : Int32)).toNatClampNeg)]) (st := [.int r1]) (c_X6_kind h) cl_L_99 0 6 md_0 rfl rfl (Nat.le_of_ble_eq_true rfl) (Nat.le_of_ble_eq_true rfl) (Nat.le_of_ble_eq_true rfl) (Nat.le_of_ble_eq_true rfl) rfl rfl (Nat.le_of_ble_eq_true rfl) dL_law_652 (fun r2 mtd' h => ?_)
  refine j_ws (ws' := (cgW a q sz pr pm kv kn kr kt kb ks kj kw kg wd fw ad bk md cr ow hd ++ mdW b q mtd' mnk mva mno mro mtu mbx mst mja mpr mcr mow mhd mmo mbk mca mfr mrs mrk mfe mus mgi maj)) rfl ?_
  refine j_icmp_eq g dL_law_655 (tgt := 762) (by decide) (fun _ => ?_) (fun c => absurd h.1 c)
  exact hX sz pr pm kv kn kr kt kb ks kj kw kg wd fw ad bk md cr ow hd mtd' mnk mva mno mro mtu mbx mst mja mpr mcr mow mhd mmo mbk mca mfr mrs mrk mfe mus mgi maj h.2
set_option maxRecDepth 20000 in
set_option maxHeartbeats 4000000 in
theorem lw_w20 {Γ : GT} {a b : Nat → Nat} {q : Nat → ClassId} {sc L j : Nat} {xs : Nat → Int32} {N : lwN} (g : gd Γ code RL 4 room_1 q) (gs : gS Γ sc L xs) (hv1 : vp_in (nI (3 * j) + 1) L) (hv2 : vp_in (nI (3 * j) + 2) L) (hX : ∀ (sz : Int32) (pr : Nat → Int32) (pm : Nat → Nat) (kv : Nat → Int32) (kn : Nat → Int32) (kr : Nat → Int32) (kt : Nat → Int32) (kb : Nat → Int32) (ks : Nat → Int32) (kj : Nat → Int32) (kw : Nat → Int32) (kg : Nat → Int32) (wd : Nat → Nat → Int64) (fw : Nat → Nat → Int32) (ad : Nat → Int32) (bk : Nat → Int32) (md : Int32) (cr : Int32) (ow : Int32) (hd : Int32) (mtd : Int32) (mnk : Int32) (mva : Nat → Int32) (mno : Nat → Int32) (mro : Nat → Int32) (mtu : Nat → Int32) (mbx : Nat → Int32) (mst : Nat → Int32) (mja : Nat → Int32) (mpr : Nat → Int32) (mcr : Int32) (mow : Int32) (mhd : Int32) (mmo : Int32) (mbk : Nat → Int32) (mca : Nat → Int32) (mfr : Nat → Int32) (mrs : Int32) (mrk : Nat → Int32) (mfe : Nat → Int32) (mus : Nat → Int32) (mgi : Nat → Int32) (maj : Nat → Int32), N sz pr pm kv kn kr kt kb ks kj kw kg wd fw ad bk md cr ow hd mtd mnk mva mno mro mtu mbx mst mja mpr mcr mow mhd mmo mbk mca mfr mrs mrk mfe mus mgi maj → jw Γ 4 53 15332 (cgW a q sz pr pm kv kn kr kt kb ks kj kw kg wd fw ad bk md cr ow hd ++ mdW b q mtd mnk mva mno mro mtu mbx mst mja mpr mcr mow mhd mmo mbk mca mfr mrs mrk mfe mus mgi maj) [(0, .ref sc), (1, .ref (a 0)), (2, .ref (b 0)), (3, .int (nI (3 * j)))] [] 762) {sz : Int32} {pr : Nat → Int32} {pm : Nat → Nat} {kv : Nat → Int32} {kn : Nat → Int32} {kr : Nat → Int32} {kt : Nat → Int32} {kb : Nat → Int32} {ks : Nat → Int32} {kj : Nat → Int32} {kw : Nat → Int32} {kg : Nat → Int32} {wd : Nat → Nat → Int64} {fw : Nat → Nat → Int32} {ad : Nat → Int32} {bk : Nat → Int32} {md : Int32} {cr : Int32} {ow : Int32} {hd : Int32} {mtd : Int32} {mnk : Int32} {mva : Nat → Int32} {mno : Nat → Int32} {mro : Nat → Int32} {mtu : Nat → Int32} {mbx : Nat → Int32} {mst : Nat → Int32} {mja : Nat → Int32} {mpr : Nat → Int32} {mcr : Int32} {mow : Int32} {mhd : Int32} {mmo : Int32} {mbk : Nat → Int32} {mca : Nat → Int32} {mfr : Nat → Int32} {mrs : Int32} {mrk : Nat → Int32} {mfe : Nat → Int32} {mus : Nat → Int32} {mgi : Nat → Int32} {maj : Nat → Int32} (h : lw_c20 (xs (nI (3 * j) + 1).toNatClampNeg) (xs (nI (3 * j) + 2).toNatClampNeg) sz pr pm kv kn kr kt kb ks kj kw kg wd fw ad bk md cr ow hd mtd mnk mva mno mro mtu mbx mst mja mpr mcr mow mhd mmo mbk mca mfr mrs mrk mfe mus mgi maj N) : jw Γ 4 53 15332 (cgW a q sz pr pm kv kn kr kt kb ks kj kw kg wd fw ad bk md cr ow hd ++ mdW b q mtd mnk mva mno mro mtu mbx mst mja mpr mcr mow mhd mmo mbk mca mfr mrs mrk mfe mus mgi maj) [(0, .ref sc), (1, .ref (a 0)), (2, .ref (b 0)), (3, .int (nI (3 * j)))] [] 660 := by
  unfold lw_c20 at h
  refine j_aload_n g 1 rfl dL_law_660 ?_
  refine j_aload_n g 0 rfl dL_law_661 ?_
  refine j_iload_n g 3 rfl dL_law_662 ?_
  refine j_iconst g (v := 1) (by decide) dL_law_663 ?_
  refine j_iadd g dL_law_664 ?_
  refine j_sld g gs hv1 dL_law_665 ?_
  refine j_fLI_0 g (As := [.int (xs ((nI (3 * j)) + (1 : Int32)).toNatClampNeg)]) (st := []) (c_X5_priced h) cl_L_100 0 5 cg_0 rfl rfl (Nat.le_of_ble_eq_true rfl) (Nat.le_of_ble_eq_true rfl) (Nat.le_of_ble_eq_true rfl) (Nat.le_of_ble_eq_true rfl) rfl rfl (Nat.le_of_ble_eq_true rfl) dL_law_666 (fun r1  h => ?_)
  refine j_aload_n g 2 rfl dL_law_669 ?_
  refine j_aload_n g 0 rfl dL_law_670 ?_
  refine j_iload_n g 3 rfl dL_law_671 ?_
  refine j_iconst g (v := 1) (by decide) dL_law_672 ?_
  refine j_iadd g dL_law_673 ?_
  refine j_sld g gs hv1 dL_law_674 ?_
  refine j_fRI_1 g (As := [.int (xs ((nI (3 * j)) + (1 : Int32)).toNatClampNeg)]) (st := [.int r1]) (c_X6_priced h) cl_L_103 0 6 md_0 rfl rfl (Nat.le_of_ble_eq_true rfl) (Nat.le_of_ble_eq_true rfl) (Nat.le_of_ble_eq_true rfl) (Nat.le_of_ble_eq_true rfl) rfl rfl (Nat.le_of_ble_eq_true rfl) dL_law_675 (fun r2 mtd' h => ?_)
  refine j_ws (ws' := (cgW a q sz pr pm kv kn kr kt kb ks kj kw kg wd fw ad bk md cr ow hd ++ mdW b q mtd' mnk mva mno mro mtu mbx mst mja mpr mcr mow mhd mmo mbk mca mfr mrs mrk mfe mus mgi maj)) rfl ?_
  refine j_icmp_eq g dL_law_678 (tgt := 762) (by decide) (fun _ => ?_) (fun c => absurd h.1 c)
  exact hX sz pr pm kv kn kr kt kb ks kj kw kg wd fw ad bk md cr ow hd mtd' mnk mva mno mro mtu mbx mst mja mpr mcr mow mhd mmo mbk mca mfr mrs mrk mfe mus mgi maj h.2
set_option maxRecDepth 20000 in
set_option maxHeartbeats 4000000 in
theorem lw_w21 {Γ : GT} {a b : Nat → Nat} {q : Nat → ClassId} {sc L j : Nat} {xs : Nat → Int32} {N : lwN} (g : gd Γ code RL 4 room_1 q) (gs : gS Γ sc L xs) (hv1 : vp_in (nI (3 * j) + 1) L) (hv2 : vp_in (nI (3 * j) + 2) L) (hX : ∀ (sz : Int32) (pr : Nat → Int32) (pm : Nat → Nat) (kv : Nat → Int32) (kn : Nat → Int32) (kr : Nat → Int32) (kt : Nat → Int32) (kb : Nat → Int32) (ks : Nat → Int32) (kj : Nat → Int32) (kw : Nat → Int32) (kg : Nat → Int32) (wd : Nat → Nat → Int64) (fw : Nat → Nat → Int32) (ad : Nat → Int32) (bk : Nat → Int32) (md : Int32) (cr : Int32) (ow : Int32) (hd : Int32) (mtd : Int32) (mnk : Int32) (mva : Nat → Int32) (mno : Nat → Int32) (mro : Nat → Int32) (mtu : Nat → Int32) (mbx : Nat → Int32) (mst : Nat → Int32) (mja : Nat → Int32) (mpr : Nat → Int32) (mcr : Int32) (mow : Int32) (mhd : Int32) (mmo : Int32) (mbk : Nat → Int32) (mca : Nat → Int32) (mfr : Nat → Int32) (mrs : Int32) (mrk : Nat → Int32) (mfe : Nat → Int32) (mus : Nat → Int32) (mgi : Nat → Int32) (maj : Nat → Int32), N sz pr pm kv kn kr kt kb ks kj kw kg wd fw ad bk md cr ow hd mtd mnk mva mno mro mtu mbx mst mja mpr mcr mow mhd mmo mbk mca mfr mrs mrk mfe mus mgi maj → jw Γ 4 53 15332 (cgW a q sz pr pm kv kn kr kt kb ks kj kw kg wd fw ad bk md cr ow hd ++ mdW b q mtd mnk mva mno mro mtu mbx mst mja mpr mcr mow mhd mmo mbk mca mfr mrs mrk mfe mus mgi maj) [(0, .ref sc), (1, .ref (a 0)), (2, .ref (b 0)), (3, .int (nI (3 * j)))] [] 762) {sz : Int32} {pr : Nat → Int32} {pm : Nat → Nat} {kv : Nat → Int32} {kn : Nat → Int32} {kr : Nat → Int32} {kt : Nat → Int32} {kb : Nat → Int32} {ks : Nat → Int32} {kj : Nat → Int32} {kw : Nat → Int32} {kg : Nat → Int32} {wd : Nat → Nat → Int64} {fw : Nat → Nat → Int32} {ad : Nat → Int32} {bk : Nat → Int32} {md : Int32} {cr : Int32} {ow : Int32} {hd : Int32} {mtd : Int32} {mnk : Int32} {mva : Nat → Int32} {mno : Nat → Int32} {mro : Nat → Int32} {mtu : Nat → Int32} {mbx : Nat → Int32} {mst : Nat → Int32} {mja : Nat → Int32} {mpr : Nat → Int32} {mcr : Int32} {mow : Int32} {mhd : Int32} {mmo : Int32} {mbk : Nat → Int32} {mca : Nat → Int32} {mfr : Nat → Int32} {mrs : Int32} {mrk : Nat → Int32} {mfe : Nat → Int32} {mus : Nat → Int32} {mgi : Nat → Int32} {maj : Nat → Int32} (h : lw_c21 (xs (nI (3 * j) + 1).toNatClampNeg) (xs (nI (3 * j) + 2).toNatClampNeg) sz pr pm kv kn kr kt kb ks kj kw kg wd fw ad bk md cr ow hd mtd mnk mva mno mro mtu mbx mst mja mpr mcr mow mhd mmo mbk mca mfr mrs mrk mfe mus mgi maj N) : jw Γ 4 53 15332 (cgW a q sz pr pm kv kn kr kt kb ks kj kw kg wd fw ad bk md cr ow hd ++ mdW b q mtd mnk mva mno mro mtu mbx mst mja mpr mcr mow mhd mmo mbk mca mfr mrs mrk mfe mus mgi maj) [(0, .ref sc), (1, .ref (a 0)), (2, .ref (b 0)), (3, .int (nI (3 * j)))] [] 683 := by
  unfold lw_c21 at h
  refine j_aload_n g 1 rfl dL_law_683 ?_
  refine j_fLI_2 g (As := []) (st := []) (c_X5_empty h) cl_L_104 0 5 cg_0 rfl rfl (Nat.le_of_ble_eq_true rfl) (Nat.le_of_ble_eq_true rfl) (Nat.le_of_ble_eq_true rfl) (Nat.le_of_ble_eq_true rfl) rfl rfl (Nat.le_of_ble_eq_true rfl) dL_law_684 (fun r1 kb' bk' h => ?_)
  refine j_ws (ws' := (cgW a q sz pr pm kv kn kr kt kb' ks kj kw kg wd fw ad bk' md cr ow hd ++ mdW b q mtd mnk mva mno mro mtu mbx mst mja mpr mcr mow mhd mmo mbk mca mfr mrs mrk mfe mus mgi maj)) rfl ?_
  refine j_aload_n g 2 rfl dL_law_687 ?_
  refine j_fRI_3 g (As := []) (st := [.int r1]) (c_X6_empty h) cl_L_107 0 6 md_0 rfl rfl (Nat.le_of_ble_eq_true rfl) (Nat.le_of_ble_eq_true rfl) (Nat.le_of_ble_eq_true rfl) (Nat.le_of_ble_eq_true rfl) rfl rfl (Nat.le_of_ble_eq_true rfl) dL_law_688 (fun r2 mtd' mbx' mbk' h => ?_)
  refine j_ws (ws' := (cgW a q sz pr pm kv kn kr kt kb' ks kj kw kg wd fw ad bk' md cr ow hd ++ mdW b q mtd' mnk mva mno mro mtu mbx' mst mja mpr mcr mow mhd mmo mbk' mca mfr mrs mrk mfe mus mgi maj)) rfl ?_
  refine j_icmp_eq g dL_law_691 (tgt := 762) (by decide) (fun _ => ?_) (fun c => absurd h.1 c)
  exact hX sz pr pm kv kn kr kt kb' ks kj kw kg wd fw ad bk' md cr ow hd mtd' mnk mva mno mro mtu mbx' mst mja mpr mcr mow mhd mmo mbk' mca mfr mrs mrk mfe mus mgi maj h.2
set_option maxRecDepth 20000 in
set_option maxHeartbeats 4000000 in
theorem lw_w22 {Γ : GT} {a b : Nat → Nat} {q : Nat → ClassId} {sc L j : Nat} {xs : Nat → Int32} {N : lwN} (g : gd Γ code RL 4 room_1 q) (gs : gS Γ sc L xs) (hv1 : vp_in (nI (3 * j) + 1) L) (hv2 : vp_in (nI (3 * j) + 2) L) (hX : ∀ (sz : Int32) (pr : Nat → Int32) (pm : Nat → Nat) (kv : Nat → Int32) (kn : Nat → Int32) (kr : Nat → Int32) (kt : Nat → Int32) (kb : Nat → Int32) (ks : Nat → Int32) (kj : Nat → Int32) (kw : Nat → Int32) (kg : Nat → Int32) (wd : Nat → Nat → Int64) (fw : Nat → Nat → Int32) (ad : Nat → Int32) (bk : Nat → Int32) (md : Int32) (cr : Int32) (ow : Int32) (hd : Int32) (mtd : Int32) (mnk : Int32) (mva : Nat → Int32) (mno : Nat → Int32) (mro : Nat → Int32) (mtu : Nat → Int32) (mbx : Nat → Int32) (mst : Nat → Int32) (mja : Nat → Int32) (mpr : Nat → Int32) (mcr : Int32) (mow : Int32) (mhd : Int32) (mmo : Int32) (mbk : Nat → Int32) (mca : Nat → Int32) (mfr : Nat → Int32) (mrs : Int32) (mrk : Nat → Int32) (mfe : Nat → Int32) (mus : Nat → Int32) (mgi : Nat → Int32) (maj : Nat → Int32), N sz pr pm kv kn kr kt kb ks kj kw kg wd fw ad bk md cr ow hd mtd mnk mva mno mro mtu mbx mst mja mpr mcr mow mhd mmo mbk mca mfr mrs mrk mfe mus mgi maj → jw Γ 4 53 15332 (cgW a q sz pr pm kv kn kr kt kb ks kj kw kg wd fw ad bk md cr ow hd ++ mdW b q mtd mnk mva mno mro mtu mbx mst mja mpr mcr mow mhd mmo mbk mca mfr mrs mrk mfe mus mgi maj) [(0, .ref sc), (1, .ref (a 0)), (2, .ref (b 0)), (3, .int (nI (3 * j)))] [] 762) {sz : Int32} {pr : Nat → Int32} {pm : Nat → Nat} {kv : Nat → Int32} {kn : Nat → Int32} {kr : Nat → Int32} {kt : Nat → Int32} {kb : Nat → Int32} {ks : Nat → Int32} {kj : Nat → Int32} {kw : Nat → Int32} {kg : Nat → Int32} {wd : Nat → Nat → Int64} {fw : Nat → Nat → Int32} {ad : Nat → Int32} {bk : Nat → Int32} {md : Int32} {cr : Int32} {ow : Int32} {hd : Int32} {mtd : Int32} {mnk : Int32} {mva : Nat → Int32} {mno : Nat → Int32} {mro : Nat → Int32} {mtu : Nat → Int32} {mbx : Nat → Int32} {mst : Nat → Int32} {mja : Nat → Int32} {mpr : Nat → Int32} {mcr : Int32} {mow : Int32} {mhd : Int32} {mmo : Int32} {mbk : Nat → Int32} {mca : Nat → Int32} {mfr : Nat → Int32} {mrs : Int32} {mrk : Nat → Int32} {mfe : Nat → Int32} {mus : Nat → Int32} {mgi : Nat → Int32} {maj : Nat → Int32} (h : lw_c22 (xs (nI (3 * j) + 1).toNatClampNeg) (xs (nI (3 * j) + 2).toNatClampNeg) sz pr pm kv kn kr kt kb ks kj kw kg wd fw ad bk md cr ow hd mtd mnk mva mno mro mtu mbx mst mja mpr mcr mow mhd mmo mbk mca mfr mrs mrk mfe mus mgi maj N) : jw Γ 4 53 15332 (cgW a q sz pr pm kv kn kr kt kb ks kj kw kg wd fw ad bk md cr ow hd ++ mdW b q mtd mnk mva mno mro mtu mbx mst mja mpr mcr mow mhd mmo mbk mca mfr mrs mrk mfe mus mgi maj) [(0, .ref sc), (1, .ref (a 0)), (2, .ref (b 0)), (3, .int (nI (3 * j)))] [] 696 := by
  unfold lw_c22 at h
  refine j_aload_n g 1 rfl dL_law_696 ?_
  refine j_aload_n g 0 rfl dL_law_697 ?_
  refine j_iload_n g 3 rfl dL_law_698 ?_
  refine j_iconst g (v := 1) (by decide) dL_law_699 ?_
  refine j_iadd g dL_law_700 ?_
  refine j_sld g gs hv1 dL_law_701 ?_
  refine j_aload_n g 0 rfl dL_law_702 ?_
  refine j_iload_n g 3 rfl dL_law_703 ?_
  refine j_iconst g (v := 2) (by decide) dL_law_704 ?_
  refine j_iadd g dL_law_705 ?_
  refine j_sld g gs hv2 dL_law_706 ?_
  refine j_fLZ_2 g (As := [.int (xs ((nI (3 * j)) + (1 : Int32)).toNatClampNeg), .int (xs ((nI (3 * j)) + (2 : Int32)).toNatClampNeg)]) (st := []) (c_X5_drain h) cl_L_108 0 5 cg_0 rfl rfl (Nat.le_of_ble_eq_true rfl) (Nat.le_of_ble_eq_true rfl) (Nat.le_of_ble_eq_true rfl) (Nat.le_of_ble_eq_true rfl) rfl rfl (Nat.le_of_ble_eq_true rfl) dL_law_707 (fun r1 kt' bk' _ h => ?_)
  refine j_ws (ws' := (cgW a q sz pr pm kv kn kr kt' kb ks kj kw kg wd fw ad bk' md cr ow hd ++ mdW b q mtd mnk mva mno mro mtu mbx mst mja mpr mcr mow mhd mmo mbk mca mfr mrs mrk mfe mus mgi maj)) rfl ?_
  refine j_aload_n g 2 rfl dL_law_710 ?_
  refine j_aload_n g 0 rfl dL_law_711 ?_
  refine j_iload_n g 3 rfl dL_law_712 ?_
  refine j_iconst g (v := 1) (by decide) dL_law_713 ?_
  refine j_iadd g dL_law_714 ?_
  refine j_sld g gs hv1 dL_law_715 ?_
  refine j_aload_n g 0 rfl dL_law_716 ?_
  refine j_iload_n g 3 rfl dL_law_717 ?_
  refine j_iconst g (v := 2) (by decide) dL_law_718 ?_
  refine j_iadd g dL_law_719 ?_
  refine j_sld g gs hv2 dL_law_720 ?_
  refine j_fRZ_3 g (As := [.int (xs ((nI (3 * j)) + (1 : Int32)).toNatClampNeg), .int (xs ((nI (3 * j)) + (2 : Int32)).toNatClampNeg)]) (st := [.int r1]) (c_X6_drain h) cl_L_111 0 6 md_0 rfl rfl (Nat.le_of_ble_eq_true rfl) (Nat.le_of_ble_eq_true rfl) (Nat.le_of_ble_eq_true rfl) (Nat.le_of_ble_eq_true rfl) rfl rfl (Nat.le_of_ble_eq_true rfl) dL_law_721 (fun r2 mtd' mtu' mbk' _ h => ?_)
  refine j_ws (ws' := (cgW a q sz pr pm kv kn kr kt' kb ks kj kw kg wd fw ad bk' md cr ow hd ++ mdW b q mtd' mnk mva mno mro mtu' mbx mst mja mpr mcr mow mhd mmo mbk' mca mfr mrs mrk mfe mus mgi maj)) rfl ?_
  refine j_icmp_eq g dL_law_724 (tgt := 762) (by decide) (fun _ => ?_) (fun c => absurd h.1 c)
  exact hX sz pr pm kv kn kr kt' kb ks kj kw kg wd fw ad bk' md cr ow hd mtd' mnk mva mno mro mtu' mbx mst mja mpr mcr mow mhd mmo mbk' mca mfr mrs mrk mfe mus mgi maj h.2
set_option maxRecDepth 20000 in
set_option maxHeartbeats 4000000 in
theorem lw_w23 {Γ : GT} {a b : Nat → Nat} {q : Nat → ClassId} {sc L j : Nat} {xs : Nat → Int32} {N : lwN} (g : gd Γ code RL 4 room_1 q) (gs : gS Γ sc L xs) (hv1 : vp_in (nI (3 * j) + 1) L) (hv2 : vp_in (nI (3 * j) + 2) L) (hX : ∀ (sz : Int32) (pr : Nat → Int32) (pm : Nat → Nat) (kv : Nat → Int32) (kn : Nat → Int32) (kr : Nat → Int32) (kt : Nat → Int32) (kb : Nat → Int32) (ks : Nat → Int32) (kj : Nat → Int32) (kw : Nat → Int32) (kg : Nat → Int32) (wd : Nat → Nat → Int64) (fw : Nat → Nat → Int32) (ad : Nat → Int32) (bk : Nat → Int32) (md : Int32) (cr : Int32) (ow : Int32) (hd : Int32) (mtd : Int32) (mnk : Int32) (mva : Nat → Int32) (mno : Nat → Int32) (mro : Nat → Int32) (mtu : Nat → Int32) (mbx : Nat → Int32) (mst : Nat → Int32) (mja : Nat → Int32) (mpr : Nat → Int32) (mcr : Int32) (mow : Int32) (mhd : Int32) (mmo : Int32) (mbk : Nat → Int32) (mca : Nat → Int32) (mfr : Nat → Int32) (mrs : Int32) (mrk : Nat → Int32) (mfe : Nat → Int32) (mus : Nat → Int32) (mgi : Nat → Int32) (maj : Nat → Int32), N sz pr pm kv kn kr kt kb ks kj kw kg wd fw ad bk md cr ow hd mtd mnk mva mno mro mtu mbx mst mja mpr mcr mow mhd mmo mbk mca mfr mrs mrk mfe mus mgi maj → jw Γ 4 53 15332 (cgW a q sz pr pm kv kn kr kt kb ks kj kw kg wd fw ad bk md cr ow hd ++ mdW b q mtd mnk mva mno mro mtu mbx mst mja mpr mcr mow mhd mmo mbk mca mfr mrs mrk mfe mus mgi maj) [(0, .ref sc), (1, .ref (a 0)), (2, .ref (b 0)), (3, .int (nI (3 * j)))] [] 762) {sz : Int32} {pr : Nat → Int32} {pm : Nat → Nat} {kv : Nat → Int32} {kn : Nat → Int32} {kr : Nat → Int32} {kt : Nat → Int32} {kb : Nat → Int32} {ks : Nat → Int32} {kj : Nat → Int32} {kw : Nat → Int32} {kg : Nat → Int32} {wd : Nat → Nat → Int64} {fw : Nat → Nat → Int32} {ad : Nat → Int32} {bk : Nat → Int32} {md : Int32} {cr : Int32} {ow : Int32} {hd : Int32} {mtd : Int32} {mnk : Int32} {mva : Nat → Int32} {mno : Nat → Int32} {mro : Nat → Int32} {mtu : Nat → Int32} {mbx : Nat → Int32} {mst : Nat → Int32} {mja : Nat → Int32} {mpr : Nat → Int32} {mcr : Int32} {mow : Int32} {mhd : Int32} {mmo : Int32} {mbk : Nat → Int32} {mca : Nat → Int32} {mfr : Nat → Int32} {mrs : Int32} {mrk : Nat → Int32} {mfe : Nat → Int32} {mus : Nat → Int32} {mgi : Nat → Int32} {maj : Nat → Int32} (h : lw_c23 (xs (nI (3 * j) + 1).toNatClampNeg) (xs (nI (3 * j) + 2).toNatClampNeg) sz pr pm kv kn kr kt kb ks kj kw kg wd fw ad bk md cr ow hd mtd mnk mva mno mro mtu mbx mst mja mpr mcr mow mhd mmo mbk mca mfr mrs mrk mfe mus mgi maj N) : jw Γ 4 53 15332 (cgW a q sz pr pm kv kn kr kt kb ks kj kw kg wd fw ad bk md cr ow hd ++ mdW b q mtd mnk mva mno mro mtu mbx mst mja mpr mcr mow mhd mmo mbk mca mfr mrs mrk mfe mus mgi maj) [(0, .ref sc), (1, .ref (a 0)), (2, .ref (b 0)), (3, .int (nI (3 * j)))] [] 729 := by
  unfold lw_c23 at h
  refine j_aload_n g 1 rfl dL_law_729 ?_
  refine j_aload_n g 0 rfl dL_law_730 ?_
  refine j_iload_n g 3 rfl dL_law_731 ?_
  refine j_iconst g (v := 1) (by decide) dL_law_732 ?_
  refine j_iadd g dL_law_733 ?_
  refine j_sld g gs hv1 dL_law_734 ?_
  refine j_aload_n g 0 rfl dL_law_735 ?_
  refine j_iload_n g 3 rfl dL_law_736 ?_
  refine j_iconst g (v := 2) (by decide) dL_law_737 ?_
  refine j_iadd g dL_law_738 ?_
  refine j_sld g gs hv2 dL_law_739 ?_
  refine j_fLI_2 g (As := [.int (xs ((nI (3 * j)) + (1 : Int32)).toNatClampNeg), .int (xs ((nI (3 * j)) + (2 : Int32)).toNatClampNeg)]) (st := []) (c_X5_count h) cl_L_112 0 5 cg_0 rfl rfl (Nat.le_of_ble_eq_true rfl) (Nat.le_of_ble_eq_true rfl) (Nat.le_of_ble_eq_true rfl) (Nat.le_of_ble_eq_true rfl) rfl rfl (Nat.le_of_ble_eq_true rfl) dL_law_740 (fun r1 kt' bk' h => ?_)
  refine j_ws (ws' := (cgW a q sz pr pm kv kn kr kt' kb ks kj kw kg wd fw ad bk' md cr ow hd ++ mdW b q mtd mnk mva mno mro mtu mbx mst mja mpr mcr mow mhd mmo mbk mca mfr mrs mrk mfe mus mgi maj)) rfl ?_
  refine j_aload_n g 2 rfl dL_law_743 ?_
  refine j_aload_n g 0 rfl dL_law_744 ?_
  refine j_iload_n g 3 rfl dL_law_745 ?_
  refine j_iconst g (v := 1) (by decide) dL_law_746 ?_
  refine j_iadd g dL_law_747 ?_
  refine j_sld g gs hv1 dL_law_748 ?_
  refine j_aload_n g 0 rfl dL_law_749 ?_
  refine j_iload_n g 3 rfl dL_law_750 ?_
  refine j_iconst g (v := 2) (by decide) dL_law_751 ?_
  refine j_iadd g dL_law_752 ?_
  refine j_sld g gs hv2 dL_law_753 ?_
  refine j_fRI_3 g (As := [.int (xs ((nI (3 * j)) + (1 : Int32)).toNatClampNeg), .int (xs ((nI (3 * j)) + (2 : Int32)).toNatClampNeg)]) (st := [.int r1]) (c_X6_count h) cl_L_115 0 6 md_0 rfl rfl (Nat.le_of_ble_eq_true rfl) (Nat.le_of_ble_eq_true rfl) (Nat.le_of_ble_eq_true rfl) (Nat.le_of_ble_eq_true rfl) rfl rfl (Nat.le_of_ble_eq_true rfl) dL_law_754 (fun r2 mtd' mtu' mbk' h => ?_)
  refine j_ws (ws' := (cgW a q sz pr pm kv kn kr kt' kb ks kj kw kg wd fw ad bk' md cr ow hd ++ mdW b q mtd' mnk mva mno mro mtu' mbx mst mja mpr mcr mow mhd mmo mbk' mca mfr mrs mrk mfe mus mgi maj)) rfl ?_
  refine j_icmp_eq g dL_law_757 (tgt := 762) (by decide) (fun _ => ?_) (fun c => absurd h.1 c)
  exact hX sz pr pm kv kn kr kt' kb ks kj kw kg wd fw ad bk' md cr ow hd mtd' mnk mva mno mro mtu' mbx mst mja mpr mcr mow mhd mmo mbk' mca mfr mrs mrk mfe mus mgi maj h.2
