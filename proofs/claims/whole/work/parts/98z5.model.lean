/-! the reference's constructor, up to its call of begins, beside any world wC -/
def nu10 : Nat → Int32 := upd (upd (upd (upd (upd (upd (upd (upd (upd (upd (upd (upd (upd (upd (upd (upd (upd (upd (upd (upd (fun _ => 0) 0 0) 1 0) 2 0) 3 0) 4 7) 5 0) 6 0) 7 0) 8 0) 9 0) 10 0) 11 0) 12 0) 13 0) 14 7) 15 0) 16 0) 17 0) 18 0) 19 0
def zz10v : List Value := [.int 0, .null, .int 0, .null, .null, .null, .null, .null, .null, .null, .null, .null, .null, .null, .null, .null, .null, .int 0, .int 0, .int 0, .int 0, .int 0, .int 0, .int 0, .int 0, .int 0, .int 0, .int 0, .int 0, .int 0, .null, .null, .int 0, .null, .null, .null, .null, .null, .null, .null, .null, .null, .null, .null, .null, .null, .null, .null, .int 0, .int 0, .int 0, .int 0, .int 0, .null, .null, .int 0, .int 0, .null, .null, .null, .null, .null, .null]
def f10a (ad : Nat → Nat) : List Value := [.int 0, .ref (ad 0), .int 0, .ref (ad 1), .ref (ad 2), .ref (ad 3), .ref (ad 4), .ref (ad 5), .ref (ad 6), .ref (ad 7), .ref (ad 8), .ref (ad 9), .ref (ad 10), .ref (ad 11), .ref (ad 12), .ref (ad 13), .ref (ad 14), .int 0, .int 0, .int 0, .int 0, .int 0, .int 0, .int 0, .int 0, .int 0, .int 0, .int (-1), .int 0, .int 0, .ref (ad 15), .ref (ad 16), .int 0, .ref (ad 17), .ref (ad 18), .ref (ad 19), .ref (ad 20), .ref (ad 21), .ref (ad 22), .ref (ad 23), .ref (ad 24), .ref (ad 25), .ref (ad 26), .ref (ad 27), .ref (ad 28), .ref (ad 29), .ref (ad 30), .ref (ad 31), .int 0, .int 0, .int 0, .int 0, .int (-1), .ref (ad 32), .ref (ad 33), .int 0, .int (-1), .ref (ad 34), .ref (ad 35), .ref (ad 36), .ref (ad 37), .ref (ad 38), .ref (ad 39)]
def w10a (D : gD) (ad : Nat → Nat) : va_W := [(ad 0, .inl (D.2.1 1, (700, .inl (fun _ => 0)))), (ad 1, .inl (D.2.1 1, (20, .inl nu10))), (ad 2, .inl (D.2.1 1, (10, .inl (fun _ => 0)))), (ad 3, .inl (D.2.1 1, (10, .inl (fun _ => 0)))), (ad 4, .inl (D.2.1 1, (10, .inl (fun _ => 0)))), (ad 5, .inl (D.2.1 1, (10, .inl (fun _ => 0)))), (ad 6, .inl (D.2.1 1, (12, .inl (fun _ => 0)))), (ad 7, .inl (D.2.1 1, (12, .inl (fun _ => 0)))), (ad 8, .inl (D.2.1 1, (12, .inl (fun _ => 0)))), (ad 9, .inl (D.2.1 1, (12, .inl (fun _ => 0)))), (ad 10, .inl (D.2.1 1, (60, .inl (fun _ => 0)))), (ad 11, .inl (D.2.1 1, (6, .inl (fun _ => 0)))), (ad 12, .inl (D.2.1 1, (6, .inl (fun _ => 0)))), (ad 13, .inl (D.2.1 1, (128, .inl (fun _ => 0)))), (ad 14, .inl (D.2.1 1, (128, .inl (fun _ => 0)))), (ad 15, .inl (D.2.1 4, (7, .inr (.inl (fun _ => 0))))), (ad 16, .inl (D.2.1 4, (64, .inr (.inl (fun _ => 0))))), (ad 17, .inl (D.2.1 1, (23, .inl (fun _ => 0)))), (ad 18, .inl (D.2.1 1, (23, .inl (fun _ => 0)))), (ad 19, .inl (D.2.1 1, (23, .inl (fun _ => 0)))), (ad 20, .inl (D.2.1 1, (115, .inl (fun _ => 0)))), (ad 21, .inl (D.2.1 1, (115, .inl (fun _ => 0)))), (ad 22, .inl (D.2.1 1, (115, .inl (fun _ => 0)))), (ad 23, .inl (D.2.1 1, (115, .inl (fun _ => 0)))), (ad 24, .inl (D.2.1 1, (115, .inl (fun _ => 0)))), (ad 25, .inl (D.2.1 1, (115, .inl (fun _ => 0)))), (ad 26, .inl (D.2.1 1, (115, .inl (fun _ => 0)))), (ad 27, .inl (D.2.1 1, (115, .inl (fun _ => 0)))), (ad 28, .inl (D.2.1 1, (115, .inl (fun _ => 0)))), (ad 29, .inl (D.2.1 1, (115, .inl (fun _ => 0)))), (ad 30, .inl (D.2.1 1, (115, .inl (fun _ => 0)))), (ad 31, .inl (D.2.1 1, (690, .inl (fun _ => 0)))), (ad 32, .inl (D.2.1 1, (25, .inl (fun _ => 0)))), (ad 33, .inl (D.2.1 1, (25, .inl (fun _ => 0)))), (ad 34, .inl (D.2.1 1, (24, .inl (fun _ => 0)))), (ad 35, .inl (D.2.1 1, (24, .inl (fun _ => 0)))), (ad 36, .inl (D.2.1 1, (24, .inl (fun _ => 0)))), (ad 37, .inl (D.2.1 3, (24, .inl (fun _ => 0)))), (ad 38, .inl (D.2.1 1, (24, .inl (fun _ => 0)))), (ad 39, .inl (D.2.1 3, (24, .inl (fun _ => 0))))]
def mk10a (D : gD) (h0 : Nat) (wC : va_W) (ad : Nat → Nat) : va_W := (h0, .inr (10, f10a ad)) :: (wC ++ w10a D ad)
section KA
variable {l : Launch} {D : gD} {A : Nat → Prop} {own : String} {cc : ByteArray} {nL : Nat} {R : Room} {mc ms : Nat} {mk : (Nat → Nat) → va_W} {Γ : gC} {kc ks pc N h0 : Nat} {lv : List (Nat × Value)} {st fs : List Value} {n : Int32} {w9 : va_W}
theorem set_lastw (x y : Nat × va_E) : ∀ w1 : va_W, (w1 ++ [x]).set w1.length y = w1 ++ [y]
  | [] => rfl
  | z :: w => congrArg (List.cons z) (set_lastw x y w)
theorem k_iastL {a : Nat} (j : Nat) {w1 : va_W} {f : Nat → Int32} {x v : Int32} (hx : x = nI j) (hj : j < N) (hN : N < 2 ^ 31) (hdg : decode cc pc = .ok (.iastore, 1)) (kk : KG l D A own cc nL R mc ms mk Γ kc ks (pc + 1) lv st (w1 ++ [(a, .inl (D.2.1 1, N, .inl (upd f j v)))])) : KG l D A own cc nL R mc ms mk Γ kc ks pc lv (.int v :: .int x :: .ref a :: st) (w1 ++ [(a, .inl (D.2.1 1, N, .inl f))]) := by
  refine k_iast (N := N) (f := f) w1.length j (by simp) hx hj hN hdg ?_
  rw [set_lastw]
  exact kk
theorem k_naI {idx j : Nat} (hF : gFL RX10 idx 10 j) (hfin : (gTt 10 j).2.2.2 = true) (hdecl : (gTt 10 j).1 = RX10) (hd : parseFieldDescriptor (gTt 10 j).2.2.1 = some (.array .int)) (hlen : fs.length = 63) (hj : j < 63) (hn : ¬ n < 0) (hN : n.toNatClampNeg = N) (hb : N * 4 ≤ 536870912) (hc : kc + 1 ≤ R.cells) (hs : ks + N ≤ R.slots) (h1 : decode cX10_init pc = .ok (.newarray .int, 2)) (h2 : decode cX10_init (pc + 2) = .ok (.putfield idx, 3)) (kk : ∀ q : Nat, (fs.set j (.ref q)).length = 63 → KG l D A RX10 cX10_init 1 R mc ms mk Γ (kc + 1) (ks + N) (pc + 2 + 3) lv st ((h0, .inr (10, fs.set j (.ref q))) :: (w9 ++ [(q, .inl (D.2.1 1, (N, .inl (fun _ => 0))))]))) : KG l D A RX10 cX10_init 1 R mc ms mk Γ kc ks pc lv (.int n :: .ref h0 :: st) ((h0, .inr (10, fs)) :: w9) := k_newI hn hN hb hc hs h1 (fun q => k_putF (ci := 10) (j := j) (h0 := h0) (fs := fs) (rest := w9 ++ [(q, .inl (D.2.1 1, (N, .inl (fun _ => 0))))]) (v := .ref q) (ty := .array .int) hF hfin hdecl hd rfl rfl (by rw [hlen]; exact hj) h2 (kk q (by rw [List.length_set]; exact hlen)))
theorem k_naZ {idx j : Nat} (hF : gFL RX10 idx 10 j) (hfin : (gTt 10 j).2.2.2 = true) (hdecl : (gTt 10 j).1 = RX10) (hd : parseFieldDescriptor (gTt 10 j).2.2.1 = some (.array .boolean)) (hlen : fs.length = 63) (hj : j < 63) (hn : ¬ n < 0) (hN : n.toNatClampNeg = N) (hb : N * 1 ≤ 536870912) (hc : kc + 1 ≤ R.cells) (hs : ks + N ≤ R.slots) (h1 : decode cX10_init pc = .ok (.newarray .boolean, 2)) (h2 : decode cX10_init (pc + 2) = .ok (.putfield idx, 3)) (kk : ∀ q : Nat, (fs.set j (.ref q)).length = 63 → KG l D A RX10 cX10_init 1 R mc ms mk Γ (kc + 1) (ks + N) (pc + 2 + 3) lv st ((h0, .inr (10, fs.set j (.ref q))) :: (w9 ++ [(q, .inl (D.2.1 3, (N, .inl (fun _ => 0))))]))) : KG l D A RX10 cX10_init 1 R mc ms mk Γ kc ks pc lv (.int n :: .ref h0 :: st) ((h0, .inr (10, fs)) :: w9) := k_newZ hn hN hb hc hs h1 (fun q => k_putF (ci := 10) (j := j) (h0 := h0) (fs := fs) (rest := w9 ++ [(q, .inl (D.2.1 3, (N, .inl (fun _ => 0))))]) (v := .ref q) (ty := .array .boolean) hF hfin hdecl hd rfl rfl (by rw [hlen]; exact hj) h2 (kk q (by rw [List.length_set]; exact hlen)))
theorem k_naJ {idx j : Nat} (hF : gFL RX10 idx 10 j) (hfin : (gTt 10 j).2.2.2 = true) (hdecl : (gTt 10 j).1 = RX10) (hd : parseFieldDescriptor (gTt 10 j).2.2.1 = some (.array .long)) (hlen : fs.length = 63) (hj : j < 63) (hn : ¬ n < 0) (hN : n.toNatClampNeg = N) (hb : N * 8 ≤ 536870912) (hc : kc + 1 ≤ R.cells) (hs : ks + N ≤ R.slots) (h1 : decode cX10_init pc = .ok (.newarray .long, 2)) (h2 : decode cX10_init (pc + 2) = .ok (.putfield idx, 3)) (kk : ∀ q : Nat, (fs.set j (.ref q)).length = 63 → KG l D A RX10 cX10_init 1 R mc ms mk Γ (kc + 1) (ks + N) (pc + 2 + 3) lv st ((h0, .inr (10, fs.set j (.ref q))) :: (w9 ++ [(q, .inl (D.2.1 4, (N, .inr (.inl (fun _ => 0)))))]))) : KG l D A RX10 cX10_init 1 R mc ms mk Γ kc ks pc lv (.int n :: .ref h0 :: st) ((h0, .inr (10, fs)) :: w9) := k_newJ hn hN hb hc hs h1 (fun q => k_putF (ci := 10) (j := j) (h0 := h0) (fs := fs) (rest := w9 ++ [(q, .inl (D.2.1 4, (N, .inr (.inl (fun _ => 0)))))]) (v := .ref q) (ty := .array .long) hF hfin hdecl hd rfl rfl (by rw [hlen]; exact hj) h2 (kk q (by rw [List.length_set]; exact hlen)))
theorem k_pF10 {idx j q : Nat} {x : Nat × va_E} (hF : gFL RX10 idx 10 j) (hfin : (gTt 10 j).2.2.2 = true) (hdecl : (gTt 10 j).1 = RX10) (hd : parseFieldDescriptor (gTt 10 j).2.2.1 = some (.array .int)) (hlen : fs.length = 63) (hj : j < 63) (h2 : decode cX10_init pc = .ok (.putfield idx, 3)) (kk : (fs.set j (.ref q)).length = 63 → KG l D A RX10 cX10_init 1 R mc ms mk Γ kc ks (pc + 3) lv st ((h0, .inr (10, fs.set j (.ref q))) :: (w9 ++ [x]))) : KG l D A RX10 cX10_init 1 R mc ms mk Γ kc ks pc lv (.ref q :: .ref h0 :: st) (((h0, .inr (10, fs)) :: w9) ++ [x]) := k_putF (ci := 10) (j := j) (h0 := h0) (fs := fs) (rest := w9 ++ [x]) (v := .ref q) (ty := .array .int) hF hfin hdecl hd rfl rfl (by rw [hlen]; exact hj) h2 (kk (by rw [List.length_set]; exact hlen))
theorem k_pI10 {idx j : Nat} {v : Int32} (hF : gFL RX10 idx 10 j) (hfin : (gTt 10 j).2.2.2 = false) (hd : parseFieldDescriptor (gTt 10 j).2.2.1 = some .int) (hlen : fs.length = 63) (hj : j < 63) (h2 : decode cX10_init pc = .ok (.putfield idx, 3)) (kk : (fs.set j (.int v)).length = 63 → KG l D A RX10 cX10_init 1 R mc ms mk Γ kc ks (pc + 3) lv st ((h0, .inr (10, fs.set j (.int v))) :: w9)) : KG l D A RX10 cX10_init 1 R mc ms mk Γ kc ks pc lv (.int v :: .ref h0 :: st) ((h0, .inr (10, fs)) :: w9) := k_put (ci := 10) (j := j) (h0 := h0) (fs := fs) (rest := w9) (v := .int v) (ty := .int) hF hfin hd rfl rfl (by rw [hlen]; exact hj) h2 (kk (by rw [List.length_set]; exact hlen))
end KA
set_option maxRecDepth 20000 in
set_option maxHeartbeats 4000000 in
theorem f10_eq (q0z : Nat) (q1z : Nat) (q2z : Nat) (q3z : Nat) (q4z : Nat) (q5z : Nat) (q6z : Nat) (q7z : Nat) (q8z : Nat) (q9z : Nat) (q10z : Nat) (q11z : Nat) (q12z : Nat) (q13z : Nat) (q14z : Nat) (q15z : Nat) (q16z : Nat) (q17z : Nat) (q18z : Nat) (q19z : Nat) (q20z : Nat) (q21z : Nat) (q22z : Nat) (q23z : Nat) (q24z : Nat) (q25z : Nat) (q26z : Nat) (q27z : Nat) (q28z : Nat) (q29z : Nat) (q30z : Nat) (q31z : Nat) (q32z : Nat) (q33z : Nat) (q34z : Nat) (q35z : Nat) (q36z : Nat) (q37z : Nat) (q38z : Nat) (q39z : Nat) : (((((((((((((((((((((((((((((((((((((((((((zz10v.set 1 (.ref q0z)).set 3 (.ref q1z)).set 4 (.ref q2z)).set 5 (.ref q3z)).set 6 (.ref q4z)).set 7 (.ref q5z)).set 8 (.ref q6z)).set 9 (.ref q7z)).set 10 (.ref q8z)).set 11 (.ref q9z)).set 12 (.ref q10z)).set 13 (.ref q11z)).set 14 (.ref q12z)).set 15 (.ref q13z)).set 16 (.ref q14z)).set 27 (.int (-1))).set 30 (.ref q15z)).set 31 (.ref q16z)).set 33 (.ref q17z)).set 34 (.ref q18z)).set 35 (.ref q19z)).set 36 (.ref q20z)).set 37 (.ref q21z)).set 38 (.ref q22z)).set 39 (.ref q23z)).set 40 (.ref q24z)).set 41 (.ref q25z)).set 42 (.ref q26z)).set 43 (.ref q27z)).set 44 (.ref q28z)).set 45 (.ref q29z)).set 46 (.ref q30z)).set 47 (.ref q31z)).set 52 (.int (-1))).set 53 (.ref q32z)).set 54 (.ref q33z)).set 56 (.int (-1))).set 57 (.ref q34z)).set 58 (.ref q35z)).set 59 (.ref q36z)).set 60 (.ref q37z)).set 61 (.ref q38z)).set 62 (.ref q39z)) = f10a (fun k => match k with | 0 => q0z | 1 => q1z | 2 => q2z | 3 => q3z | 4 => q4z | 5 => q5z | 6 => q6z | 7 => q7z | 8 => q8z | 9 => q9z | 10 => q10z | 11 => q11z | 12 => q12z | 13 => q13z | 14 => q14z | 15 => q15z | 16 => q16z | 17 => q17z | 18 => q18z | 19 => q19z | 20 => q20z | 21 => q21z | 22 => q22z | 23 => q23z | 24 => q24z | 25 => q25z | 26 => q26z | 27 => q27z | 28 => q28z | 29 => q29z | 30 => q30z | 31 => q31z | 32 => q32z | 33 => q33z | 34 => q34z | 35 => q35z | 36 => q36z | 37 => q37z | 38 => q38z | 39 => q39z | _ => 0) := by
  simp only [zz10v, List.set_cons_zero, List.set_cons_succ]
  rfl
set_option maxRecDepth 20000 in
set_option maxHeartbeats 4000000 in
theorem k_X10_a {l : Launch} {D : gD} {A : Nat → Prop} {mk : (Nat → Nat) → va_W} {Γ : gC} (h0 : Nat) (wC : va_W) (kk : ∀ ad : Nat → Nat, KG l D A RX10 cX10_init 1 (krm 6 40 3425) 40 3425 mk Γ 40 3425 439 (lv_args 0 [.ref h0]) [] (mk10a D h0 wC ad)) : KG l D A RX10 cX10_init 1 (krm 6 40 3425) 40 3425 mk Γ 0 0 0 (lv_args 0 [.ref h0]) [] ((h0, .inr (10, zz10v)) :: wC) := by
  have hz0 : zz10v.length = 63 := rfl
  refine k_aload_n (x := h0) dX10_init_0 rfl ?_
  refine k_objInit (gw_t 1205 (by decide +kernel) (by decide +kernel)) (by decide) (by decide) dX10_init_1 ?_
  refine k_aload_n (x := h0) dX10_init_4 rfl ?_
  refine k_sipush (700) dX10_init_5 rfl ?_
  refine k_naI (N := 700) (j := 1) fl_10_7 rfl rfl (by decide +kernel) hz0 (by decide) (by decide) (by decide) (by decide) (by decide) (by decide) dX10_init_8 dX10_init_10 (fun q0z hz1 => ?_)
  refine k_aload_n (x := h0) dX10_init_13 rfl ?_
  refine k_bipush (20) dX10_init_14 rfl ?_
  refine k_newI (N := 20) (by decide) (by decide) (by decide) (by decide) (by decide) dX10_init_16 (fun q1z => ?_)
  refine k_dup dX10_init_18 rfl ?_
  refine k_iconst (0) dX10_init_19 rfl ?_
  refine k_iconst (0) dX10_init_20 rfl ?_
  refine k_iastL (N := 20) (0) rfl (by decide) (by decide) dX10_init_21 ?_
  refine k_dup dX10_init_22 rfl ?_
  refine k_iconst (1) dX10_init_23 rfl ?_
  refine k_iconst (0) dX10_init_24 rfl ?_
  refine k_iastL (N := 20) (1) rfl (by decide) (by decide) dX10_init_25 ?_
  refine k_dup dX10_init_26 rfl ?_
  refine k_iconst (2) dX10_init_27 rfl ?_
  refine k_iconst (0) dX10_init_28 rfl ?_
  refine k_iastL (N := 20) (2) rfl (by decide) (by decide) dX10_init_29 ?_
  refine k_dup dX10_init_30 rfl ?_
  refine k_iconst (3) dX10_init_31 rfl ?_
  refine k_iconst (0) dX10_init_32 rfl ?_
  refine k_iastL (N := 20) (3) rfl (by decide) (by decide) dX10_init_33 ?_
  refine k_dup dX10_init_34 rfl ?_
  refine k_iconst (4) dX10_init_35 rfl ?_
  refine k_bipush (7) dX10_init_36 rfl ?_
  refine k_iastL (N := 20) (4) rfl (by decide) (by decide) dX10_init_38 ?_
  refine k_dup dX10_init_39 rfl ?_
  refine k_iconst (5) dX10_init_40 rfl ?_
  refine k_iconst (0) dX10_init_41 rfl ?_
  refine k_iastL (N := 20) (5) rfl (by decide) (by decide) dX10_init_42 ?_
  refine k_dup dX10_init_43 rfl ?_
  refine k_bipush (6) dX10_init_44 rfl ?_
  refine k_iconst (0) dX10_init_46 rfl ?_
  refine k_iastL (N := 20) (6) rfl (by decide) (by decide) dX10_init_47 ?_
  refine k_dup dX10_init_48 rfl ?_
  refine k_bipush (7) dX10_init_49 rfl ?_
  refine k_iconst (0) dX10_init_51 rfl ?_
  refine k_iastL (N := 20) (7) rfl (by decide) (by decide) dX10_init_52 ?_
  refine k_dup dX10_init_53 rfl ?_
  refine k_bipush (8) dX10_init_54 rfl ?_
  refine k_iconst (0) dX10_init_56 rfl ?_
  refine k_iastL (N := 20) (8) rfl (by decide) (by decide) dX10_init_57 ?_
  refine k_dup dX10_init_58 rfl ?_
  refine k_bipush (9) dX10_init_59 rfl ?_
  refine k_iconst (0) dX10_init_61 rfl ?_
  refine k_iastL (N := 20) (9) rfl (by decide) (by decide) dX10_init_62 ?_
  refine k_dup dX10_init_63 rfl ?_
  refine k_bipush (10) dX10_init_64 rfl ?_
  refine k_iconst (0) dX10_init_66 rfl ?_
  refine k_iastL (N := 20) (10) rfl (by decide) (by decide) dX10_init_67 ?_
  refine k_dup dX10_init_68 rfl ?_
  refine k_bipush (11) dX10_init_69 rfl ?_
  refine k_iconst (0) dX10_init_71 rfl ?_
  refine k_iastL (N := 20) (11) rfl (by decide) (by decide) dX10_init_72 ?_
  refine k_dup dX10_init_73 rfl ?_
  refine k_bipush (12) dX10_init_74 rfl ?_
  refine k_iconst (0) dX10_init_76 rfl ?_
  refine k_iastL (N := 20) (12) rfl (by decide) (by decide) dX10_init_77 ?_
  refine k_dup dX10_init_78 rfl ?_
  refine k_bipush (13) dX10_init_79 rfl ?_
  refine k_iconst (0) dX10_init_81 rfl ?_
  refine k_iastL (N := 20) (13) rfl (by decide) (by decide) dX10_init_82 ?_
  refine k_dup dX10_init_83 rfl ?_
  refine k_bipush (14) dX10_init_84 rfl ?_
  refine k_bipush (7) dX10_init_86 rfl ?_
  refine k_iastL (N := 20) (14) rfl (by decide) (by decide) dX10_init_88 ?_
  refine k_dup dX10_init_89 rfl ?_
  refine k_bipush (15) dX10_init_90 rfl ?_
  refine k_iconst (0) dX10_init_92 rfl ?_
  refine k_iastL (N := 20) (15) rfl (by decide) (by decide) dX10_init_93 ?_
  refine k_dup dX10_init_94 rfl ?_
  refine k_bipush (16) dX10_init_95 rfl ?_
  refine k_iconst (0) dX10_init_97 rfl ?_
  refine k_iastL (N := 20) (16) rfl (by decide) (by decide) dX10_init_98 ?_
  refine k_dup dX10_init_99 rfl ?_
  refine k_bipush (17) dX10_init_100 rfl ?_
  refine k_iconst (0) dX10_init_102 rfl ?_
  refine k_iastL (N := 20) (17) rfl (by decide) (by decide) dX10_init_103 ?_
  refine k_dup dX10_init_104 rfl ?_
  refine k_bipush (18) dX10_init_105 rfl ?_
  refine k_iconst (0) dX10_init_107 rfl ?_
  refine k_iastL (N := 20) (18) rfl (by decide) (by decide) dX10_init_108 ?_
  refine k_dup dX10_init_109 rfl ?_
  refine k_bipush (19) dX10_init_110 rfl ?_
  refine k_iconst (0) dX10_init_112 rfl ?_
  refine k_iastL (N := 20) (19) rfl (by decide) (by decide) dX10_init_113 ?_
  refine k_pF10 (j := 3) fl_10_13 rfl rfl (by decide +kernel) hz1 (by decide) dX10_init_114 (fun hz2 => ?_)
  refine k_aload_n (x := h0) dX10_init_117 rfl ?_
  refine k_bipush (10) dX10_init_118 rfl ?_
  refine k_naI (N := 10) (j := 4) fl_10_16 rfl rfl (by decide +kernel) hz2 (by decide) (by decide) (by decide) (by decide) (by decide) (by decide) dX10_init_120 dX10_init_122 (fun q2z hz3 => ?_)
  refine k_aload_n (x := h0) dX10_init_125 rfl ?_
  refine k_bipush (10) dX10_init_126 rfl ?_
  refine k_naI (N := 10) (j := 5) fl_10_19 rfl rfl (by decide +kernel) hz3 (by decide) (by decide) (by decide) (by decide) (by decide) (by decide) dX10_init_128 dX10_init_130 (fun q3z hz4 => ?_)
  refine k_aload_n (x := h0) dX10_init_133 rfl ?_
  refine k_bipush (10) dX10_init_134 rfl ?_
  refine k_naI (N := 10) (j := 6) fl_10_22 rfl rfl (by decide +kernel) hz4 (by decide) (by decide) (by decide) (by decide) (by decide) (by decide) dX10_init_136 dX10_init_138 (fun q4z hz5 => ?_)
  refine k_aload_n (x := h0) dX10_init_141 rfl ?_
  refine k_bipush (10) dX10_init_142 rfl ?_
  refine k_naI (N := 10) (j := 7) fl_10_25 rfl rfl (by decide +kernel) hz5 (by decide) (by decide) (by decide) (by decide) (by decide) (by decide) dX10_init_144 dX10_init_146 (fun q5z hz6 => ?_)
  refine k_aload_n (x := h0) dX10_init_149 rfl ?_
  refine k_bipush (12) dX10_init_150 rfl ?_
  refine k_naI (N := 12) (j := 8) fl_10_28 rfl rfl (by decide +kernel) hz6 (by decide) (by decide) (by decide) (by decide) (by decide) (by decide) dX10_init_152 dX10_init_154 (fun q6z hz7 => ?_)
  refine k_aload_n (x := h0) dX10_init_157 rfl ?_
  refine k_bipush (12) dX10_init_158 rfl ?_
  refine k_naI (N := 12) (j := 9) fl_10_31 rfl rfl (by decide +kernel) hz7 (by decide) (by decide) (by decide) (by decide) (by decide) (by decide) dX10_init_160 dX10_init_162 (fun q7z hz8 => ?_)
  refine k_aload_n (x := h0) dX10_init_165 rfl ?_
  refine k_bipush (12) dX10_init_166 rfl ?_
  refine k_naI (N := 12) (j := 10) fl_10_34 rfl rfl (by decide +kernel) hz8 (by decide) (by decide) (by decide) (by decide) (by decide) (by decide) dX10_init_168 dX10_init_170 (fun q8z hz9 => ?_)
  refine k_aload_n (x := h0) dX10_init_173 rfl ?_
  refine k_bipush (12) dX10_init_174 rfl ?_
  refine k_naI (N := 12) (j := 11) fl_10_37 rfl rfl (by decide +kernel) hz9 (by decide) (by decide) (by decide) (by decide) (by decide) (by decide) dX10_init_176 dX10_init_178 (fun q9z hz10 => ?_)
  refine k_aload_n (x := h0) dX10_init_181 rfl ?_
  refine k_bipush (60) dX10_init_182 rfl ?_
  refine k_naI (N := 60) (j := 12) fl_10_40 rfl rfl (by decide +kernel) hz10 (by decide) (by decide) (by decide) (by decide) (by decide) (by decide) dX10_init_184 dX10_init_186 (fun q10z hz11 => ?_)
  refine k_aload_n (x := h0) dX10_init_189 rfl ?_
  refine k_bipush (6) dX10_init_190 rfl ?_
  refine k_naI (N := 6) (j := 13) fl_10_43 rfl rfl (by decide +kernel) hz11 (by decide) (by decide) (by decide) (by decide) (by decide) (by decide) dX10_init_192 dX10_init_194 (fun q11z hz12 => ?_)
  refine k_aload_n (x := h0) dX10_init_197 rfl ?_
  refine k_bipush (6) dX10_init_198 rfl ?_
  refine k_naI (N := 6) (j := 14) fl_10_46 rfl rfl (by decide +kernel) hz12 (by decide) (by decide) (by decide) (by decide) (by decide) (by decide) dX10_init_200 dX10_init_202 (fun q12z hz13 => ?_)
  refine k_aload_n (x := h0) dX10_init_205 rfl ?_
  refine k_sipush (128) dX10_init_206 rfl ?_
  refine k_naI (N := 128) (j := 15) fl_10_49 rfl rfl (by decide +kernel) hz13 (by decide) (by decide) (by decide) (by decide) (by decide) (by decide) dX10_init_209 dX10_init_211 (fun q13z hz14 => ?_)
  refine k_aload_n (x := h0) dX10_init_214 rfl ?_
  refine k_sipush (128) dX10_init_215 rfl ?_
  refine k_naI (N := 128) (j := 16) fl_10_52 rfl rfl (by decide +kernel) hz14 (by decide) (by decide) (by decide) (by decide) (by decide) (by decide) dX10_init_218 dX10_init_220 (fun q14z hz15 => ?_)
  refine k_aload_n (x := h0) dX10_init_223 rfl ?_
  refine k_iconst (-1) dX10_init_224 rfl ?_
  refine k_pI10 (j := 27) fl_10_55 rfl (by decide +kernel) hz15 (by decide) dX10_init_225 (fun hz16 => ?_)
  refine k_aload_n (x := h0) dX10_init_228 rfl ?_
  refine k_bipush (7) dX10_init_229 rfl ?_
  refine k_naJ (N := 7) (j := 30) fl_10_59 rfl rfl (by decide +kernel) hz16 (by decide) (by decide) (by decide) (by decide) (by decide) (by decide) dX10_init_231 dX10_init_233 (fun q15z hz17 => ?_)
  refine k_aload_n (x := h0) dX10_init_236 rfl ?_
  refine k_bipush (64) dX10_init_237 rfl ?_
  refine k_naJ (N := 64) (j := 31) fl_10_63 rfl rfl (by decide +kernel) hz17 (by decide) (by decide) (by decide) (by decide) (by decide) (by decide) dX10_init_239 dX10_init_241 (fun q16z hz18 => ?_)
  refine k_aload_n (x := h0) dX10_init_244 rfl ?_
  refine k_bipush (23) dX10_init_245 rfl ?_
  refine k_naI (N := 23) (j := 33) fl_10_66 rfl rfl (by decide +kernel) hz18 (by decide) (by decide) (by decide) (by decide) (by decide) (by decide) dX10_init_247 dX10_init_249 (fun q17z hz19 => ?_)
  refine k_aload_n (x := h0) dX10_init_252 rfl ?_
  refine k_bipush (23) dX10_init_253 rfl ?_
  refine k_naI (N := 23) (j := 34) fl_10_69 rfl rfl (by decide +kernel) hz19 (by decide) (by decide) (by decide) (by decide) (by decide) (by decide) dX10_init_255 dX10_init_257 (fun q18z hz20 => ?_)
  refine k_aload_n (x := h0) dX10_init_260 rfl ?_
  refine k_bipush (23) dX10_init_261 rfl ?_
  refine k_naI (N := 23) (j := 35) fl_10_72 rfl rfl (by decide +kernel) hz20 (by decide) (by decide) (by decide) (by decide) (by decide) (by decide) dX10_init_263 dX10_init_265 (fun q19z hz21 => ?_)
  refine k_aload_n (x := h0) dX10_init_268 rfl ?_
  refine k_bipush (115) dX10_init_269 rfl ?_
  refine k_naI (N := 115) (j := 36) fl_10_75 rfl rfl (by decide +kernel) hz21 (by decide) (by decide) (by decide) (by decide) (by decide) (by decide) dX10_init_271 dX10_init_273 (fun q20z hz22 => ?_)
  refine k_aload_n (x := h0) dX10_init_276 rfl ?_
  refine k_bipush (115) dX10_init_277 rfl ?_
  refine k_naI (N := 115) (j := 37) fl_10_78 rfl rfl (by decide +kernel) hz22 (by decide) (by decide) (by decide) (by decide) (by decide) (by decide) dX10_init_279 dX10_init_281 (fun q21z hz23 => ?_)
  refine k_aload_n (x := h0) dX10_init_284 rfl ?_
  refine k_bipush (115) dX10_init_285 rfl ?_
  refine k_naI (N := 115) (j := 38) fl_10_81 rfl rfl (by decide +kernel) hz23 (by decide) (by decide) (by decide) (by decide) (by decide) (by decide) dX10_init_287 dX10_init_289 (fun q22z hz24 => ?_)
  refine k_aload_n (x := h0) dX10_init_292 rfl ?_
  refine k_bipush (115) dX10_init_293 rfl ?_
  refine k_naI (N := 115) (j := 39) fl_10_84 rfl rfl (by decide +kernel) hz24 (by decide) (by decide) (by decide) (by decide) (by decide) (by decide) dX10_init_295 dX10_init_297 (fun q23z hz25 => ?_)
  refine k_aload_n (x := h0) dX10_init_300 rfl ?_
  refine k_bipush (115) dX10_init_301 rfl ?_
  refine k_naI (N := 115) (j := 40) fl_10_87 rfl rfl (by decide +kernel) hz25 (by decide) (by decide) (by decide) (by decide) (by decide) (by decide) dX10_init_303 dX10_init_305 (fun q24z hz26 => ?_)
  refine k_aload_n (x := h0) dX10_init_308 rfl ?_
  refine k_bipush (115) dX10_init_309 rfl ?_
  refine k_naI (N := 115) (j := 41) fl_10_90 rfl rfl (by decide +kernel) hz26 (by decide) (by decide) (by decide) (by decide) (by decide) (by decide) dX10_init_311 dX10_init_313 (fun q25z hz27 => ?_)
  refine k_aload_n (x := h0) dX10_init_316 rfl ?_
  refine k_bipush (115) dX10_init_317 rfl ?_
  refine k_naI (N := 115) (j := 42) fl_10_93 rfl rfl (by decide +kernel) hz27 (by decide) (by decide) (by decide) (by decide) (by decide) (by decide) dX10_init_319 dX10_init_321 (fun q26z hz28 => ?_)
  refine k_aload_n (x := h0) dX10_init_324 rfl ?_
  refine k_bipush (115) dX10_init_325 rfl ?_
  refine k_naI (N := 115) (j := 43) fl_10_96 rfl rfl (by decide +kernel) hz28 (by decide) (by decide) (by decide) (by decide) (by decide) (by decide) dX10_init_327 dX10_init_329 (fun q27z hz29 => ?_)
  refine k_aload_n (x := h0) dX10_init_332 rfl ?_
  refine k_bipush (115) dX10_init_333 rfl ?_
  refine k_naI (N := 115) (j := 44) fl_10_99 rfl rfl (by decide +kernel) hz29 (by decide) (by decide) (by decide) (by decide) (by decide) (by decide) dX10_init_335 dX10_init_337 (fun q28z hz30 => ?_)
  refine k_aload_n (x := h0) dX10_init_340 rfl ?_
  refine k_bipush (115) dX10_init_341 rfl ?_
  refine k_naI (N := 115) (j := 45) fl_10_102 rfl rfl (by decide +kernel) hz30 (by decide) (by decide) (by decide) (by decide) (by decide) (by decide) dX10_init_343 dX10_init_345 (fun q29z hz31 => ?_)
  refine k_aload_n (x := h0) dX10_init_348 rfl ?_
  refine k_bipush (115) dX10_init_349 rfl ?_
  refine k_naI (N := 115) (j := 46) fl_10_105 rfl rfl (by decide +kernel) hz31 (by decide) (by decide) (by decide) (by decide) (by decide) (by decide) dX10_init_351 dX10_init_353 (fun q30z hz32 => ?_)
  refine k_aload_n (x := h0) dX10_init_356 rfl ?_
  refine k_sipush (690) dX10_init_357 rfl ?_
  refine k_naI (N := 690) (j := 47) fl_10_108 rfl rfl (by decide +kernel) hz32 (by decide) (by decide) (by decide) (by decide) (by decide) (by decide) dX10_init_360 dX10_init_362 (fun q31z hz33 => ?_)
  refine k_aload_n (x := h0) dX10_init_365 rfl ?_
  refine k_iconst (-1) dX10_init_366 rfl ?_
  refine k_pI10 (j := 52) fl_10_111 rfl (by decide +kernel) hz33 (by decide) dX10_init_367 (fun hz34 => ?_)
  refine k_aload_n (x := h0) dX10_init_370 rfl ?_
  refine k_bipush (25) dX10_init_371 rfl ?_
  refine k_naI (N := 25) (j := 53) fl_10_114 rfl rfl (by decide +kernel) hz34 (by decide) (by decide) (by decide) (by decide) (by decide) (by decide) dX10_init_373 dX10_init_375 (fun q32z hz35 => ?_)
  refine k_aload_n (x := h0) dX10_init_378 rfl ?_
  refine k_bipush (25) dX10_init_379 rfl ?_
  refine k_naI (N := 25) (j := 54) fl_10_117 rfl rfl (by decide +kernel) hz35 (by decide) (by decide) (by decide) (by decide) (by decide) (by decide) dX10_init_381 dX10_init_383 (fun q33z hz36 => ?_)
  refine k_aload_n (x := h0) dX10_init_386 rfl ?_
  refine k_iconst (-1) dX10_init_387 rfl ?_
  refine k_pI10 (j := 56) fl_10_120 rfl (by decide +kernel) hz36 (by decide) dX10_init_388 (fun hz37 => ?_)
  refine k_aload_n (x := h0) dX10_init_391 rfl ?_
  refine k_bipush (24) dX10_init_392 rfl ?_
  refine k_naI (N := 24) (j := 57) fl_10_123 rfl rfl (by decide +kernel) hz37 (by decide) (by decide) (by decide) (by decide) (by decide) (by decide) dX10_init_394 dX10_init_396 (fun q34z hz38 => ?_)
  refine k_aload_n (x := h0) dX10_init_399 rfl ?_
  refine k_bipush (24) dX10_init_400 rfl ?_
  refine k_naI (N := 24) (j := 58) fl_10_126 rfl rfl (by decide +kernel) hz38 (by decide) (by decide) (by decide) (by decide) (by decide) (by decide) dX10_init_402 dX10_init_404 (fun q35z hz39 => ?_)
  refine k_aload_n (x := h0) dX10_init_407 rfl ?_
  refine k_bipush (24) dX10_init_408 rfl ?_
  refine k_naI (N := 24) (j := 59) fl_10_129 rfl rfl (by decide +kernel) hz39 (by decide) (by decide) (by decide) (by decide) (by decide) (by decide) dX10_init_410 dX10_init_412 (fun q36z hz40 => ?_)
  refine k_aload_n (x := h0) dX10_init_415 rfl ?_
  refine k_bipush (24) dX10_init_416 rfl ?_
  refine k_naZ (N := 24) (j := 60) fl_10_132 rfl rfl (by decide +kernel) hz40 (by decide) (by decide) (by decide) (by decide) (by decide) (by decide) dX10_init_418 dX10_init_420 (fun q37z hz41 => ?_)
  refine k_aload_n (x := h0) dX10_init_423 rfl ?_
  refine k_bipush (24) dX10_init_424 rfl ?_
  refine k_naI (N := 24) (j := 61) fl_10_136 rfl rfl (by decide +kernel) hz41 (by decide) (by decide) (by decide) (by decide) (by decide) (by decide) dX10_init_426 dX10_init_428 (fun q38z hz42 => ?_)
  refine k_aload_n (x := h0) dX10_init_431 rfl ?_
  refine k_bipush (24) dX10_init_432 rfl ?_
  refine k_naZ (N := 24) (j := 62) fl_10_139 rfl rfl (by decide +kernel) hz42 (by decide) (by decide) (by decide) (by decide) (by decide) (by decide) dX10_init_434 dX10_init_436 (fun q39z hz43 => ?_)
  refine k_ws (ws' := mk10a D h0 wC (fun k => match k with | 0 => q0z | 1 => q1z | 2 => q2z | 3 => q3z | 4 => q4z | 5 => q5z | 6 => q6z | 7 => q7z | 8 => q8z | 9 => q9z | 10 => q10z | 11 => q11z | 12 => q12z | 13 => q13z | 14 => q14z | 15 => q15z | 16 => q16z | 17 => q17z | 18 => q18z | 19 => q19z | 20 => q20z | 21 => q21z | 22 => q22z | 23 => q23z | 24 => q24z | 25 => q25z | 26 => q26z | 27 => q27z | 28 => q28z | 29 => q29z | 30 => q30z | 31 => q31z | 32 => q32z | 33 => q33z | 34 => q34z | 35 => q35z | 36 => q36z | 37 => q37z | 38 => q38z | 39 => q39z | _ => 0)) ?_ (kk _)
  rw [f10_eq q0z q1z q2z q3z q4z q5z q6z q7z q8z q9z q10z q11z q12z q13z q14z q15z q16z q17z q18z q19z q20z q21z q22z q23z q24z q25z q26z q27z q28z q29z q30z q31z q32z q33z q34z q35z q36z q37z q38z q39z]
  show _ = (h0, .inr (10, f10a (fun k => match k with | 0 => q0z | 1 => q1z | 2 => q2z | 3 => q3z | 4 => q4z | 5 => q5z | 6 => q6z | 7 => q7z | 8 => q8z | 9 => q9z | 10 => q10z | 11 => q11z | 12 => q12z | 13 => q13z | 14 => q14z | 15 => q15z | 16 => q16z | 17 => q17z | 18 => q18z | 19 => q19z | 20 => q20z | 21 => q21z | 22 => q22z | 23 => q23z | 24 => q24z | 25 => q25z | 26 => q26z | 27 => q27z | 28 => q28z | 29 => q29z | 30 => q30z | 31 => q31z | 32 => q32z | 33 => q33z | 34 => q34z | 35 => q35z | 36 => q36z | 37 => q37z | 38 => q38z | 39 => q39z | _ => 0))) :: (wC ++ [(q0z, .inl (D.2.1 1, (700, .inl (fun _ => 0)))), (q1z, .inl (D.2.1 1, (20, .inl nu10))), (q2z, .inl (D.2.1 1, (10, .inl (fun _ => 0)))), (q3z, .inl (D.2.1 1, (10, .inl (fun _ => 0)))), (q4z, .inl (D.2.1 1, (10, .inl (fun _ => 0)))), (q5z, .inl (D.2.1 1, (10, .inl (fun _ => 0)))), (q6z, .inl (D.2.1 1, (12, .inl (fun _ => 0)))), (q7z, .inl (D.2.1 1, (12, .inl (fun _ => 0)))), (q8z, .inl (D.2.1 1, (12, .inl (fun _ => 0)))), (q9z, .inl (D.2.1 1, (12, .inl (fun _ => 0)))), (q10z, .inl (D.2.1 1, (60, .inl (fun _ => 0)))), (q11z, .inl (D.2.1 1, (6, .inl (fun _ => 0)))), (q12z, .inl (D.2.1 1, (6, .inl (fun _ => 0)))), (q13z, .inl (D.2.1 1, (128, .inl (fun _ => 0)))), (q14z, .inl (D.2.1 1, (128, .inl (fun _ => 0)))), (q15z, .inl (D.2.1 4, (7, .inr (.inl (fun _ => 0))))), (q16z, .inl (D.2.1 4, (64, .inr (.inl (fun _ => 0))))), (q17z, .inl (D.2.1 1, (23, .inl (fun _ => 0)))), (q18z, .inl (D.2.1 1, (23, .inl (fun _ => 0)))), (q19z, .inl (D.2.1 1, (23, .inl (fun _ => 0)))), (q20z, .inl (D.2.1 1, (115, .inl (fun _ => 0)))), (q21z, .inl (D.2.1 1, (115, .inl (fun _ => 0)))), (q22z, .inl (D.2.1 1, (115, .inl (fun _ => 0)))), (q23z, .inl (D.2.1 1, (115, .inl (fun _ => 0)))), (q24z, .inl (D.2.1 1, (115, .inl (fun _ => 0)))), (q25z, .inl (D.2.1 1, (115, .inl (fun _ => 0)))), (q26z, .inl (D.2.1 1, (115, .inl (fun _ => 0)))), (q27z, .inl (D.2.1 1, (115, .inl (fun _ => 0)))), (q28z, .inl (D.2.1 1, (115, .inl (fun _ => 0)))), (q29z, .inl (D.2.1 1, (115, .inl (fun _ => 0)))), (q30z, .inl (D.2.1 1, (115, .inl (fun _ => 0)))), (q31z, .inl (D.2.1 1, (690, .inl (fun _ => 0)))), (q32z, .inl (D.2.1 1, (25, .inl (fun _ => 0)))), (q33z, .inl (D.2.1 1, (25, .inl (fun _ => 0)))), (q34z, .inl (D.2.1 1, (24, .inl (fun _ => 0)))), (q35z, .inl (D.2.1 1, (24, .inl (fun _ => 0)))), (q36z, .inl (D.2.1 1, (24, .inl (fun _ => 0)))), (q37z, .inl (D.2.1 3, (24, .inl (fun _ => 0)))), (q38z, .inl (D.2.1 1, (24, .inl (fun _ => 0)))), (q39z, .inl (D.2.1 3, (24, .inl (fun _ => 0))))])
  simp only [List.append_assoc, List.cons_append, List.nil_append]
  rfl
