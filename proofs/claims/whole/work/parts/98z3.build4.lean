/-! rows of Tokens' constructor: the text, its members, an int array -/
section KT
variable {l : Launch} {D : gD} {A : Nat → Prop} {own : String} {cc : ByteArray} {nL : Nat} {R : Room} {mc ms : Nat} {mk : (Nat → Nat) → va_W} {Γ : gC} {kc ks pc N : Nat} {lv : List (Nat × Value)} {st : List Value} {ws : va_W}
theorem k_ldcT (hdg : decode cc pc = .ok (.ldc 19, 2)) (kk : KG l D A "WristGoal$Tokens" cc nL R mc ms mk Γ kc ks (pc + 2) lv (.ref (D.2.2 2000 0) :: st) ws) : KG l D A "WristGoal$Tokens" cc nL R mc ms mk Γ kc ks pc lv st ws := fun H locs ls ok hl hP hD hS => va_ldcS ok.1 ok.2.1 ok.2.2.2.1 ok.2.2.2.2.2.1.2.2.2.2.1 hdg (kk H locs ls ok hl hP hD hS)
theorem k_ior {x y : Int32} (hdg : decode cc pc = .ok (.ior, 1)) (kk : KG l D A own cc nL R mc ms mk Γ kc ks (pc + 1) lv (.int (x ||| y) :: st) ws) : KG l D A own cc nL R mc ms mk Γ kc ks pc lv (.int y :: .int x :: st) ws := fun H locs ls ok hl hP hD hS => lv_ior ok.1 ok.2.1 hdg (kk H locs ls ok hl hP hD hS)
theorem k_dup2 {v w9 : Value} (hdg : decode cc pc = .ok (.dup2, 1)) (hv : v.category = 1) (hw : w9.category = 1) (kk : KG l D A own cc nL R mc ms mk Γ kc ks (pc + 1) lv (v :: w9 :: v :: w9 :: st) ws) : KG l D A own cc nL R mc ms mk Γ kc ks pc lv (v :: w9 :: st) ws := fun H locs ls ok hl hP hD hS => lv_dup2_11 ok.1 ok.2.1 hdg hv hw (kk H locs ls ok hl hP hD hS)
theorem k_icmp_ne {x y : Int32} {off : Int} {tgt : Nat} (hdg : decode cc pc = .ok (.if_icmp .ne off, 3)) (ht : (pc : Int) + off = (tgt : Int)) (kt : ¬ x = y → KG l D A own cc nL R mc ms mk Γ kc ks tgt lv st ws) (kf : x = y → KG l D A own cc nL R mc ms mk Γ kc ks (pc + 3) lv st ws) : KG l D A own cc nL R mc ms mk Γ kc ks pc lv (.int y :: .int x :: st) ws := fun H locs ls ok hl hP hD hS => lv_icmp_ne ok.1 ok.2.1 hdg ht (fun h => kt h H locs ls ok hl hP hD hS) (fun h => kf h H locs ls ok hl hP hD hS)
theorem k_iald {a : Nat} (q0 j : Nat) {f : Nat → Int32} {x : Int32} (ha : ws[q0]? = some (a, .inl (D.2.1 1, N, .inl f))) (hx : x = nI j) (hj : j < N) (hN : N < 2 ^ 31) (hdg : decode cc pc = .ok (.iaload, 1)) (kk : KG l D A own cc nL R mc ms mk Γ kc ks (pc + 1) lv (.int (f j) :: st) ws) : KG l D A own cc nL R mc ms mk Γ kc ks pc lv (.int x :: .ref a :: st) ws := fun H locs ls ok hl hP hD hS => by
  subst hx
  refine va_iald ok.1 ok.2.1 ok.2.2.2.2.2.1.1 hP q0 0 ha rfl (vp_in_nI hj hN) hdg ?_
  rw [nI_clamp (Nat.lt_trans hj hN)]
  exact kk H locs ls ok hl hP hD hS
theorem k_iast {a : Nat} (q0 j : Nat) {f : Nat → Int32} {x v : Int32} (ha : ws[q0]? = some (a, .inl (D.2.1 1, N, .inl f))) (hx : x = nI j) (hj : j < N) (hN : N < 2 ^ 31) (hdg : decode cc pc = .ok (.iastore, 1)) (kk : KG l D A own cc nL R mc ms mk Γ kc ks (pc + 1) lv st (ws.set q0 (a, .inl (D.2.1 1, N, .inl (upd f j v))))) : KG l D A own cc nL R mc ms mk Γ kc ks pc lv (.int v :: .int x :: .ref a :: st) ws := fun H locs ls ok hl hP hD hS => by
  subst hx
  refine va_iast ok.1 ok.2.1 ok.2.2.2.2.2.1.1 hP hD hS q0 0 ha rfl (vp_in_nI hj hN) hdg (fun H1 locs1 hP1 hD1 hS1 => ?_)
  rw [nI_clamp (Nat.lt_trans hj hN)] at hP1 hD1
  exact kk H1 locs1 ls ok hl hP1 hD1 hS1
theorem kX_str {U : State} {H : Heap} {locs : List Loc} (ok : kOk D A own cc nL Γ) (hU : U.heap = H) (hW : Γ.2.2.1.WarmedH U.vm) (hS : va_S A Γ.2.2.1.heap H locs) : sXs noA (D.2.2 2000 0) (D.2.2 2001 0) U U.heap := by
  rw [hU]
  exact ((ok.2.2.2.2.2.1.2.2.2.1.kept hS.2.1).narrow (fun _ h => h.elim)).moved hW.alike
theorem k_strV {idx n d' nL' : Nat} {y : MethodName} {cc' : ByteArray} {ret' : Option FieldType} {As rest : List Value} {post' : Option Value → Prop} (hL : gLV own idx RJ0 y cc' nL' ret' n) (hc : SCt l d' y cc' nL' ret' (.ref (D.2.2 2000 0) :: As) (D.2.2 2000 0) (D.2.2 2001 0) post') (hfr : (srm d').frames + 1 ≤ R.frames ∧ 8 + (nL' + 11) + (srm d').locals ≤ R.locals) (hkb : kc ≤ R.cells) (hsb : ks ≤ R.slots) (hn : As.length = n) (hst : st = As.reverse ++ .ref (D.2.2 2000 0) :: rest) (hrm : (rest.map fun v => v.category).sum ≤ 8) (hdg : decode cc pc = .ok (.invokevirtual idx, 3)) (kk : ∀ r : Option Value, post' r → KG l D A own cc nL R mc ms mk Γ kc ks (pc + 3) lv (r.toList ++ rest) ws) : KG l D A own cc nL R mc ms mk Γ kc ks pc lv st ws := fun H locs ls ok hl hP hD hS => by
  have hts := ok.2.2.2.2.1
  obtain ⟨ww1, ww2, ww3, ww4, ww5, ww6, ww7⟩ := hL
  have hB : CallW R Γ.2.2.1 Γ.2.2.2.2.1 own RJ0 idx y cc' nL' ret' (gws y cc' nL' ret') (srm d') 0 0 n := ⟨callB_of n hts (gws_in ww1) rfl rfl rfl (hts _ (by rw [ww6]; exact ww5)) (hts _ ww2) ww7 hfr, hts _ ww3, hts _ ww4⟩
  exact s_run (va_runV (As := As) (rest := rest) (b := D.2.2 2000 0) ⟨ok.1, ok.2.1, ok.2.2.1, ok.2.2.2.1, hts⟩ hc hB ⟨sblind, vk_recv (adK := fun _ => D.2.2 2000 0) (i := 0) ok.2.2.2.2.2.1.2.2.2.1.1 (by decide) hS, fun U hU hW => ⟨rfl, kX_str ok hU hW hS⟩⟩ rfl hn hl.1 hst (lv_room hrm) hdg ⟨hkb, hsb⟩) (fun r hp => kk r hp H locs ls ok hl hP hD hS)
theorem k_strS {idx n d' nL' : Nat} {y : MethodName} {cc' : ByteArray} {ret' : Option FieldType} {As rest : List Value} {post' : Option Value → Prop} (hL : gLS own idx y cc' nL' ret' n) (hc : SCt l d' y cc' nL' ret' As (D.2.2 2000 0) (D.2.2 2001 0) post') (hfr : (srm d').frames + 1 ≤ R.frames ∧ 8 + (nL' + 11) + (srm d').locals ≤ R.locals) (hkb : kc ≤ R.cells) (hsb : ks ≤ R.slots) (hn : As.length = n) (hst : st = As.reverse ++ rest) (hrm : (rest.map fun v => v.category).sum ≤ 8) (hdg : decode cc pc = .ok (.invokestatic idx, 3)) (kk : ∀ r : Option Value, post' r → KG l D A own cc nL R mc ms mk Γ kc ks (pc + 3) lv (r.toList ++ rest) ws) : KG l D A own cc nL R mc ms mk Γ kc ks pc lv st ws := fun H locs ls ok hl hP hD hS => by
  have hts := ok.2.2.2.2.1
  obtain ⟨ww1, ww2, ww3, ww5, ww7⟩ := hL
  have hB : CallB R Γ.2.2.1 Γ.2.2.2.2.1 own idx y cc' nL' ret' (gws y cc' nL' ret') (srm d') 0 0 n := callB_of n hts (gws_in ww1) rfl rfl rfl (hts _ ww5) (hts _ ww2) ww7 hfr
  exact s_run (va_runS (As := As) (rest := rest) ⟨ok.1, ok.2.1, ok.2.2.1, ok.2.2.2.1, hts⟩ hc ⟨hB, hts _ ww3⟩ ⟨sblind, fun U hU hW => ⟨rfl, kX_str ok hU hW hS⟩⟩ rfl hn hl.1 hst (lv_room hrm) hdg ⟨hkb, hsb⟩) (fun r hp => kk r hp H locs ls ok hl hP hD hS)
end KT
