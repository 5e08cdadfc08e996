/-! case man of the law -/
section LC4
variable {l : Launch} {D : gD} {o b L : Nat} {xs : Nat → Int32} {Γ : lC} {kc ks pc j t : Nat} {lv : List (Nat × Value)} {st : List Value} {μ : gMem} {g : Nat → Int64} {σ : sV} {x1 x2 : Int32}
theorem l_argG (k : Nat) (hj : 6 * j + 6 ≤ L) (hk : k < 6) (hv0 : lv.lookup 0 = some (.ref b)) (hv4 : lv.lookup 4 = some (.int (nI (6 * j)))) (h1 : decode code pc = .ok (.aload_n 0, 1)) (h2 : decode code (pc + 1) = .ok (.iload 4, 2)) (h3 : decode code (pc + 3) = .ok (.iconst (k : Int), 1)) (h4 : decode code (pc + 4) = .ok (.iadd, 1)) (h5 : decode code (pc + 5) = .ok (.iaload, 1)) (kk : LG l D o b L xs Γ kc ks (pc + 6) lv (.int (xs (6 * j + k)) :: st) μ g) : LG l D o b L xs Γ kc ks pc lv st μ g := by
  refine l_aload_n (x := b) h1 hv0 ?_
  refine l_iload (x := nI (6 * j)) h2 hv4 ?_
  refine l_iconst (nI k) h3 (ofI_n k hk) ?_
  refine l_iadd h4 ?_
  exact l_sld (n := 6 * j + k) (nI_add (6 * j) k) (by omega) h5 kk
theorem cw_in : Cond.codeWith yL_man cL_man 5 (some .int) hsL ∈ gw := gw_t 1111 (by decide +kernel) (by decide +kernel)
theorem gwL_in {w : Cond} (h : w ∈ gwL) : w ∈ gw := by
  rcases List.mem_cons.mp h with rfl | h
  · exact cw_in
  · exact h
theorem l_cman (hlf : l.stackTraces = false) (hN : nCs Γ.2.2.1) (hc : cSt μ t σ) (hO : sOkS σ) (hkb : kc + 1 ≤ 601024) (hsb : ks + 6 ≤ 7293034)
    (kk : ∀ g' : Nat → Int64, (manE σ x1 x2 = 0 → g' 0 = (manV σ x1 x2).toInt64) → LG l D o b L xs Γ (kc + 1) (ks + 6) 393 lv [.int (manE σ x1 x2)] μ g') : LG l D o b L xs Γ kc ks 390 lv [.ref o, .int x2, .int x1, .ref (D.2.2 9 0)] μ g := by
  intro H locs ls ok hl hh hS T hT X
  have hts := lok_w ok
  have ho := ok.2.2.2.2.1
  have hM : LMet l (lmPc D μ o g x1 x2) (lmQ D μ o (manE σ x1 x2) (manV σ x1 x2)) (oA D o) := lmA hlf hc hO ho
  have hini : Cond.initialized "WristGoalLaw" ∈ gw := gw_t 0 (by decide +kernel) (by decide +kernel)
  have hK : Jvm.Free.Back l room_1 Γ.1 Γ.2.1 Γ.2.2.2.2.1 Γ.2.2.1 #[Value.ref b] yL_man 3 8 (PreOf room_1 1 6 (lmPc D μ o g x1 x2)) (PostOf (lmQ D μ o (manE σ x1 x2) (manV σ x1 x2)) 1 6 (oA D o)) := by
    refine Jvm.Free.Back.of_freeWith (handlers := hsL) (S := headSpec gwL rmL) (P := lmPc D μ o g x1 x2) (K := fun _ _ _ _ _ => True) (Q := fun a st oc tt => lmQ D μ o (manE σ x1 x2) (manV σ x1 x2) a st oc tt ∧ ∃ Lx, FrameEnd st oc tt Lx 1 6 ∧ ∀ q ∈ Lx, oA D o q.base) (bytes := cL_man) (maxL := 5) (ret := some .int)
      (E := fun a st oc tt Lx k9 n9 => k9 = 1 ∧ n9 = 6 ∧ ∀ q ∈ Lx, oA D o q.base) hM (by decide) (by decide) ?_ ?_ (fun _ _ _ _ _ _ _ _ _ => trivial) ?_ ?_
    · intro m' meth' c' A av X9 hpp
      exact ⟨atoms_intro fun w hw => word_at X9.warmed (gw_good (gwL_in hw)) (hts w (gwL_in hw)), word_at X9.warmed (gw_good cw_in) (hts _ cw_in), word_at X9.warmed (gw_good hini) (hts _ hini), hpp.1, hpp.2.1⟩
    · intro m' meth' c' A av g' mk X9 hpp
      have h9 := hpp.2.2
      exact ⟨h9.1, h9.2.1, gK.same (s := A.U) (U := A.U.calling g' mk av) rfl rfl h9.2.2.1, h9.2.2.2.1, h9.2.2.2.2⟩
    · intro av st9 oc tt hq
      obtain ⟨hq1, Lx, hF, hL⟩ := hq
      exact ⟨Lx, 1, 6, hF, rfl, rfl, hL⟩
    · intro m' meth' c' A av g' mk v tt Lx k9 n9 X9 hpp hq hF hE
      obtain ⟨eE1, eE2, hL⟩ := hE
      subst eE1
      subst eE2
      exact ⟨g', mk, tt, Lx, rfl, rfl, hq.1, rfl, hL, rfl, rfl⟩
  obtain ⟨v, vm₁, ⟨U', lx2, cx2, sx2⟩, hW₁, X', hpost, hsteps⟩ := Jvm.RoadKit.callSH X ok.1.1 (own := RL) (index := 39) (y := yL_man) (bytes := cL_man) (maxL := 5) (ret := some .int) (hs := hsL) ok.1.2.2.2.2.1 (hts _ (gw_t 1109 (by decide +kernel) (by decide +kernel))) (hts _ (gw_t 1110 (by decide +kernel) (by decide +kernel))) (hts _ hini) (hts _ cw_in) (by decide) hK (g := F0 Γ.2.2.2.1 390 ls [.ref o, .int x2, .int x1, .ref (D.2.2 9 0)]) rfl (hl.1.trans ok.1.2.2.2.1.symm) (argsL := [.ref (D.2.2 9 0), .int x1, .int x2, .ref o]) (rest := []) (fun sig h => by
      have hd : (parseMethodDescriptor yL_man.desc).map (fun d => d.parameters.length) = some 4 := by decide +kernel
      rw [h] at hd
      exact (Option.some.inj hd).symm) rfl (lv_room (Nat.le_of_ble_eq_true rfl)) (by rw [ok.1.2.1]; exact dL_law_390)
    (fun vm₁ hW₁ => ⟨hkb, hsb, rfl, by show lHd D μ o g (T.setVm vm₁).heap; rw [show (T.setVm vm₁).heap = H from hT]; exact hh, lX.gk ok.2.2.1 ok.2.2.2.1 (U := T.setVm vm₁) hT hS hW₁, by rw [show (T.setVm vm₁).heap = H from hT]; exact ok.2.2.1.2.2.2.2.2.go (U := T.setVm vm₁) hW₁.alike hS ok.2.2.2.1, hN.moved (U := T.setVm vm₁) hW₁.alike⟩)
  obtain ⟨g9, mk9, tt, Lx, pA, pB, hq, pC, hL, pD, pE⟩ := hpost
  dsimp only [Pt.U, Pt.locs, Pt.cells, Pt.slots] at X' pA pB pC pD pE hsteps hq
  subst pC
  subst pD
  subst pE
  obtain ⟨⟨g', hv, hg0, hhd⟩, hzz, hkp⟩ := hq
  cases hv
  have hzz : T.heap.size ≤ tt.heap.size := hzz
  have hkp : ∀ q : Nat, q < T.heap.size → ¬ oA D o q → tt.heap[q]? = T.heap[q]? := hkp
  rw [hT] at hzz hkp
  have hoA : ∀ q, oA D o q → AL Γ.2.2.1 q := fun q hq => by
    rcases hq with hq | hq
    · exact ok.2.2.2.1 q hq
    · rw [hq]; exact ok.2.2.2.2.2
  obtain ⟨tE, sE, qE⟩ := kk g' hg0 U'.heap (locs ++ Lx) ls ok hl (by rw [pA]; exact hhd) ⟨Nat.le_trans hS.1 (by rw [pA]; exact hzz), fun q hlt hA => by rw [pA, hkp q (Nat.lt_of_lt_of_le hlt hS.1) (fun hq => hA (hoA q hq))]; exact hS.2.1 q hlt hA, fun q hq => by
    rcases List.mem_append.mp hq with h9 | h9
    · exact hS.2.2 q h9
    · exact hoA _ (hL q h9)⟩ U' rfl X'
  exact ⟨tE, hsteps _ sE, qE⟩
theorem c_X10_thrown (hd : 0 ≤ 1) : Ctr l D 700 yX10_thrown cX10_thrown 1 (some .int) [.ref (D.2.2 10 0)] μ (pI (fun v μ' => v = μ.1 10 0 0 ∧ μ' = μ)) := en_X10_thrown (fun Γ9 => bl_X10_thrown_0 (by decide) ⟨rfl, rfl⟩)
theorem l_man (hlf : l.stackTraces = false) (hN : nCs Γ.2.2.1) : ManL l D o b L xs Γ 1 6 := by
  intro kc ks j μ g hk hs hj hI kk
  obtain ⟨t, σ, hc, hm, hO⟩ := hI
  have hk1 : kc + 1 ≤ 601024 := hk
  have hs1 : ks + 6 ≤ 7293034 := hs
  refine l_aload_n dL_law_376 rfl ?_
  refine l_arg 1 hj (by omega) dL_law_377 dL_law_378 dL_law_380 dL_law_381 dL_law_382 ?_
  refine l_arg 2 hj (by omega) dL_law_383 dL_law_384 dL_law_386 dL_law_387 dL_law_388 ?_
  refine l_aload_n dL_law_389 rfl ?_
  refine l_cman (σ := σ) (x1 := xs (6 * j + 1)) (x2 := xs (6 * j + 2)) hlf hN hc hO hk1 hs1 (fun g' hg0 => ?_)
  refine l_istore dL_law_393 (by omega) ?_
  refine l_aload_n (x := D.2.2 10 0) dL_law_395 rfl ?_
  refine l_argG 1 hj (by omega) rfl rfl dL_law_396 dL_law_397 dL_law_399 dL_law_400 dL_law_401 ?_
  refine l_argG 2 hj (by omega) rfl rfl dL_law_402 dL_law_403 dL_law_405 dL_law_406 dL_law_407 ?_
  refine l_callV (k := 10) (i := 0) (c := 10) (As := [.int (xs (6 * j + 1)), .int (xs (6 * j + 2))]) (rest := []) ca_L_44 (c_X10_man (d := 700) (by omega) hm hO) (by decide) (by decide) hk1 hs1 (by decide) rfl rfl rfl rfl (by decide) dL_law_408 (lkI (fun v9 μ1 hq1 => ?_))
  obtain ⟨hv9, hthr, hm1, hcK⟩ := hq1
  have hc1 := hc.kp hcK
  refine l_istore dL_law_411 (by omega) ?_
  refine l_aload_n (x := D.2.2 10 0) dL_law_413 rfl ?_
  refine l_callV (k := 10) (i := 0) (c := 10) (As := []) (rest := []) ca_L_45 (c_X10_thrown (by omega)) (by decide) (by decide) hk1 hs1 (by decide) rfl rfl rfl rfl (by decide) dL_law_414 (lkI (fun v8 μ2 hq2 => ?_))
  obtain ⟨hv8, hμ2⟩ := hq2
  rw [hthr] at hv8
  subst hμ2
  refine l_iload (x := manE σ (xs (6 * j + 1)) (xs (6 * j + 2))) dL_law_417 rfl ?_
  refine l_icmp_eq (tgt := 424) dL_law_419 rfl (fun _ => ?_) (fun hne => absurd hv8 hne)
  refine l_iload (x := manE σ (xs (6 * j + 1)) (xs (6 * j + 2))) dL_law_424 rfl ?_
  have hend : LG l D o b L xs Γ (kc + 1) (ks + 6) 441 (glv1 6 (.int v9) (glv1 5 (.int (manE σ (xs (6 * j + 1)) (xs (6 * j + 2)))) (lvL D o b (nI (6 * j))))) [] μ2 g' := by
    refine l_goto (tgt := 1700) dL_law_441 rfl ?_
    exact l_sub (lv' := lvL D o b (nI (6 * j))) [2, 3, 4, 5, 6] rfl (kk μ2 g' ⟨t, σ, hc1, hm1, hO⟩)
  refine l_if_ne (tgt := 441) dL_law_426 rfl (fun _ => hend) (fun hz => ?_)
  refine l_aload_n (x := o) dL_law_429 rfl ?_
  refine l_iconst (nI 0) dL_law_430 (by decide) ?_
  refine l_oload rfl dL_law_431 ?_
  refine l_iload (x := v9) dL_law_432 rfl ?_
  refine l_i2l dL_law_434 ?_
  refine l_lcmp dL_law_435 ?_
  refine l_if_eq (tgt := 441) dL_law_436 rfl (fun _ => hend) (fun hne => absurd ?_ hne)
  rw [hg0 hz, hv9, if_pos hz]
  exact lg_self _
end LC4
