/-! the law's man, walked -/
theorem hsL_spec {tb : List ExceptionTableEntry} (h : tb.map (fun h => (h.startPc, h.endPc, h.handlerPc, h.catchType)) = hsL) : ∃ x y : ExceptionTableEntry, tb = [x, y] ∧ (x.startPc = 0 ∧ x.endPc = 10 ∧ x.handlerPc = 13 ∧ x.catchType = 13) ∧ y.startPc = 0 ∧ y.endPc = 10 ∧ y.handlerPc = 17 ∧ y.catchType = 15 := by
  match tb, h with
  | [x, y], h =>
    simp only [hsL, List.map_cons, List.map_nil, List.cons.injEq, Prod.mk.injEq, and_true] at h
    exact ⟨x, y, rfl, h.1, h.2⟩
  | [], h => simp [hsL] at h
  | [_], h => simp [hsL] at h
  | _ :: _ :: _ :: _, h => simp [hsL] at h
section LM0
variable {l : Launch} {D : gD} {μ : gMem} {o t : Nat} {σ : sV} {x1 x2 : Int32} {g : Nat → Int64}
theorem lm0 (hc : cSt μ t σ) (hO : sOkS σ) (ho : ¬ gdom D o) (hE : manE σ x1 x2 = 0) : LMet l (lmPc D μ o g x1 x2) (lmQ D μ o (manE σ x1 x2) (manV σ x1 x2)) (oA D o) := by
  refine LMet.ofW (fun p e s m args below meth c s₁ B hml hv hhs => ?_)
  obtain ⟨rfl, hh, hk, hz, hn⟩ := hv
  have hts0 := atoms_spec (ws := gwL) B.pre
  have hts : ∀ w ∈ gw, w.before ([.ref (D.2.2 9 0), .int x1, .int x2, .ref o] : List Value).toArray s = true := fun w hw => hts0 w (List.mem_cons_of_mem _ hw)
  have hown : s.vm.findClass RL = some m.cls := findClass_of_methodNamed B.named
  have hl := lv_entry ([.ref (D.2.2 9 0), .int x1, .int x2, .ref o]) (n := 5) (Nat.le_of_ble_eq_true rfl)
  rw [lg_entry_eq]
  generalize (lg_sl ([.ref (D.2.2 9 0), .int x1, .int x2, .ref o]) ++ List.replicate (5 - (lg_sl ([.ref (D.2.2 9 0), .int x1, .int x2, .ref o])).length) Slot.unset).toArray = ls at hl ⊢
  have hl : lv_has ls 5 [(0, .ref (D.2.2 9 0)), (1, .int x1), (2, .int x2), (3, .ref o)] := hl
  refine lv_aload_n B.exec B.bytes dL_man_0 rfl (lv_at hl 3 rfl) ?_
  refine lv_iconst (v := nI 0) B.exec B.bytes dL_man_1 (by decide) ?_
  refine lv_aload_n B.exec B.bytes dL_man_2 rfl (lv_at hl 0 rfl) ?_
  refine lv_iload_n B.exec B.bytes dL_man_3 rfl (lv_at hl 1 rfl) ?_
  refine lv_iload_n B.exec B.bytes dL_man_4 rfl (lv_at hl 2 rfl) ?_
  obtain ⟨q, he⟩ := ob9 D μ
  obtain ⟨ww1, ww2, ww3, ww4, ww5, ww6, ww7⟩ := ca_L_7
  have hB : CallW rmL s ([.ref (D.2.2 9 0), .int x1, .int x2, .ref o] : List Value).toArray RL (gCn 9) 7 yX9_man cX9_man 4 (some .int) (gws yX9_man cX9_man 4 (some .int)) (grm 2) 0 0 2 := ⟨callB_of 2 hts (gws_in ww1) rfl rfl rfl (hts _ ww5) (hts _ ww2) ww7 ⟨by decide, by decide⟩, hts _ ww3, hts _ ww4⟩
  refine l_run (D := D) (pc := 5) (kc := 0) (ks := 0) (A := oA D o) (wo := [(o, .inl (D.2.1 4, 1, .inr (.inl g)))]) (va_runV (As := [.int x1, .int x2]) (rest := [.int (nI 0), .ref o]) (b := D.2.2 9 0) ⟨B.exec, B.bytes, hml, hown, hts⟩ (c_X9_man (d := 2) (Nat.le_refl _) hc hO hE) hB ⟨gblind, va_recv hk.1 hh.1.1 (ci := 9) (q0 := q) rfl he, fun U hU hW => ⟨rfl, by rw [hU]; exact hh.1, gK.warm hU va_S.rf hW hk⟩⟩ rfl rfl hl.1 rfl (lv_room (Nat.le_of_ble_eq_true rfl)) dL_man_5 ⟨Nat.zero_le _, Nat.zero_le _⟩) va_S.rf (fun q hq => Or.inl hq) hh.2 (oA_no ho) (fun r μ' H1 locs1 hp hh1 hP1 hS1 => ?_)
  obtain ⟨v, hr, hv, hμ⟩ := hp
  subst hr
  rw [hμ] at hh1
  refine lv_i2l B.exec B.bytes dL_man_8 rfl ?_
  have hPa : va_P D.1 vwCl (gwl D μ ++ [(o, .inl (D.2.1 4, 1, .inr (.inl g)))]) H1 := va_P.app hh1.1 hP1
  have hDo : va_D (oA D o) [(o, .inl (D.2.1 4, 1, .inr (.inl g)))] := by
    refine ⟨fun i j p9 q9 hi hj _ => ?_, fun k q9 hq => ?_⟩
    · have hi1 : i < 1 := (List.getElem?_eq_some_iff.mp hi).1
      have hj1 : j < 1 := (List.getElem?_eq_some_iff.mp hj).1
      omega
    · have hk1 : k < 1 := (List.getElem?_eq_some_iff.mp hq).1
      rw [show k = 0 by omega] at hq
      cases hq
      exact Or.inr rfl
  have hDa : va_D (oA D o) (gwl D μ ++ [(o, .inl (D.2.1 4, 1, .inr (.inl g)))]) := va_D.app (hh1.2.weaken (fun k q9 _ h => Or.inl h)) hDo (fun i j p9 q9 hi hj heq => by
    have hj1 : j < 1 := (List.getElem?_eq_some_iff.mp hj).1
    rw [show j = 0 by omega] at hj
    cases hj
    have h9 := hh1.2.2 i p9 hi
    rw [show p9.1 = o from heq] at h9
    exact ho h9)
  refine va_last (a := o) (cA := D.2.1 4) (n := 1) (f := g) (x := v.toInt64) (i := nI 0) (rest := []) B.exec B.bytes hk.1 hPa hDa hS1 (gwl D μ).length 3 (by simp) rfl (vp_in_nI (n := 0) (N := 1) (by omega) (by decide)) dL_man_9 (fun H2 locs2 hP2 hD2 hS2 => ?_)
  have hset : ∀ e1 e2 : va_E, (gwl D μ ++ ([(o, e1)] : va_W) : va_W).set (gwl D μ).length (o, e2) = gwl D μ ++ ([(o, e2)] : va_W) := fun e1 e2 => by simp
  rw [hset] at hP2 hD2
  refine lv_goto B.exec B.bytes dL_man_10 (tgt := 21) rfl ?_
  refine lv_iconst (v := 0) B.exec B.bytes dL_man_21 (by decide) ?_
  refine W.widen (k := 1) (n := 6) (by omega) (by omega) ?_
  refine W.iret (v := 0) B.exec B.bytes B.returns (fun t9 ht9 hW9 => ⟨⟨vp_updL g (nI 0).toNatClampNeg v.toInt64, by rw [hE], fun _ => ?_, ⟨⟨?_, hh1.2⟩, ?_⟩⟩, hS2.F ht9⟩) hS2.2.2 dL_man_22
  · rw [hv, nI_clamp (by decide)]
    rfl
  · rw [ht9]
    intro k9 q9 hq9
    exact hP2 k9 q9 (by rw [List.getElem?_append_left (List.getElem?_eq_some_iff.mp hq9).1]; exact hq9)
  · rw [ht9]
    intro k9 q9 hq9
    exact hP2 ((gwl D μ).length + k9) q9 (by rw [List.getElem?_append_right (by omega), Nat.add_sub_cancel_left]; exact hq9)
theorem lm1 (hlf : l.stackTraces = false) (hc : cSt μ t σ) (hO : sOkS σ) (ho : ¬ gdom D o) (hE : manE σ x1 x2 = 1) : LMet l (lmPc D μ o g x1 x2) (lmQ D μ o (manE σ x1 x2) (manV σ x1 x2)) (oA D o) := by
  refine LMet.ofW (fun p e s m args below meth c s₁ B hml hv hhs => ?_)
  obtain ⟨rfl, hh, hk, hz, hn⟩ := hv
  have hts0 := atoms_spec (ws := gwL) B.pre
  have hts : ∀ w ∈ gw, w.before ([.ref (D.2.2 9 0), .int x1, .int x2, .ref o] : List Value).toArray s = true := fun w hw => hts0 w (List.mem_cons_of_mem _ hw)
  have hown : s.vm.findClass RL = some m.cls := findClass_of_methodNamed B.named
  have hret := B.returns
  have hlk := B.notSynchronized
  have hol : o < s.heap.size := (hh.2 0 _ rfl).lt
  have hl := lv_entry ([.ref (D.2.2 9 0), .int x1, .int x2, .ref o]) (n := 5) (Nat.le_of_ble_eq_true rfl)
  rw [lg_entry_eq]
  generalize (lg_sl ([.ref (D.2.2 9 0), .int x1, .int x2, .ref o]) ++ List.replicate (5 - (lg_sl ([.ref (D.2.2 9 0), .int x1, .int x2, .ref o])).length) Slot.unset).toArray = ls at hl ⊢
  have hl : lv_has ls 5 [(0, .ref (D.2.2 9 0)), (1, .int x1), (2, .int x2), (3, .ref o)] := hl
  refine lv_aload_n B.exec B.bytes dL_man_0 rfl (lv_at hl 3 rfl) ?_
  refine lv_iconst (v := nI 0) B.exec B.bytes dL_man_1 (by decide) ?_
  refine lv_aload_n B.exec B.bytes dL_man_2 rfl (lv_at hl 0 rfl) ?_
  refine lv_iload_n B.exec B.bytes dL_man_3 rfl (lv_at hl 1 rfl) ?_
  refine lv_iload_n B.exec B.bytes dL_man_4 rfl (lv_at hl 2 rfl) ?_
  obtain ⟨q, he⟩ := ob9 D μ
  obtain ⟨ww1, ww2, ww3, ww4, ww5, ww6, ww7⟩ := ca_L_7
  have hB : CallW rmL s ([.ref (D.2.2 9 0), .int x1, .int x2, .ref o] : List Value).toArray RL (gCn 9) 7 yX9_man cX9_man 4 (some .int) (gws yX9_man cX9_man 4 (some .int)) trm 1 6 2 := ⟨callB_of 2 hts (gws_in ww1) rfl rfl rfl (hts _ ww5) (hts _ ww2) ww7 ⟨by decide, by decide⟩, hts _ ww3, hts _ ww4⟩
  intro T hT X
  obtain ⟨v, st₀, tt, T', Lx, hs0, X', hLx, eh, ev, hq, hst⟩ := runT (g := F0 m 5 ls [.int x2, .int x1, .ref (D.2.2 9 0), .int (nI 0), .ref o]) (As := [.int x1, .int x2]) (rest := [.int (nI 0), .ref o]) (b := D.2.2 9 0) ⟨B.exec, B.bytes, hml, hown, hts⟩ (t_X9_man1 (D := D) (x2 := x2) hlf hc hO hE) hB ⟨lmblind, va_recv hk.1 hh.1.1 (ci := 9) (q0 := q) rfl he, fun U hU hW => ⟨rfl, by rw [hU]; exact hh.1, gK.warm hU va_S.rf hW hk, by rw [hU]; exact hz.go hW.alike va_S.rf (fun _ h => h)⟩⟩ rfl rfl hl.1 rfl (lv_room (Nat.le_of_ble_eq_true rfl)) dL_man_5 ⟨by decide, by decide⟩ T hT X
  obtain ⟨hgh, -, hge, ⟨ce, cX, hce, hfX, hcc, hcv⟩, hszt, hkp⟩ := hq
  rw [hs0] at hge hszt hkp
  have hal : s.vm.Alike tt.vm := by rw [← ev]; exact X'.warmed.alike
  rw [hal.findClass] at hfX
  obtain ⟨x, y, hxy, ⟨xA, xB, xC, xD⟩, yA, yB, yC, yD⟩ := hsL_spec hhs
  have hcv9 : ce.vm.isStatics = false := by rw [hcv]; rfl
  have hcov : covers x 5 = true := by simp [covers, xA, xB]
  obtain ⟨vm', XV, stV⟩ := X'.caughtLink v (g := { F0 m 5 ls [.int x2, .int x1, .ref (D.2.2 9 0), .int (nI 0), .ref o] with stack := [.int (nI 0), .ref o] }) rfl (own := RL) (name := "java/lang/IndexOutOfBoundsException") hown [] x [y] hxy (fun _ h => by cases h) hcov (by rw [xD]; decide) (by rw [xD]; exact hts _ (gw_t 1112 (by decide +kernel) (by decide +kernel))) hfX (by rw [eh]; exact hce) hcv9 (by rw [hcc]; exact Jvm.Free.SB.assignable_self _ _)
  rw [← X'.pushThrowing_eq, xC] at stV
  have hK : W p l e rmL s m ([.ref (D.2.2 9 0), .int x1, .int x2, .ref o] : List Value).toArray below meth c T'.heap ([] ++ Lx) (0 + 1) (0 + 6) (MQ below (lmQ D μ o (manE σ x1 x2) (manV σ x1 x2)) ([.ref (D.2.2 9 0), .int x1, .int x2, .ref o] : List Value).toArray s 1 6 (oA D o)) (F0 m 13 ls [.ref v]) := by
    refine lv_astore B.exec B.bytes dL_man_13 hl (by decide) rfl (fun ls' hl' => ?_)
    refine lv_iconst (v := 1) B.exec B.bytes dL_man_15 (by decide) ?_
    refine W.iret (v := 1) B.exec B.bytes hret (fun t9 ht9 hW9 => ⟨⟨g, by rw [hE], fun h0 => ?_, ⟨?_, ?_⟩⟩, ?_, ?_⟩) (fun q9 hq9 => Or.inl (hLx q9 hq9)) dL_man_16
    · rw [hE] at h0
      exact absurd h0 (by decide)
    · rw [ht9, eh]
      exact hgh
    · rw [ht9, eh]
      exact hh.2.kept (fun k9 q9 hq9 => hkp q9.1 ((hh.2 k9 q9 hq9).lt) (oA_no ho k9 q9 hq9))
    · rw [ht9, eh]
      exact hszt
    · intro q9 hlt hA
      rw [ht9, eh]
      exact hkp q9 hlt (fun hg => hA (Or.inl hg))
  obtain ⟨t2, st2, hq2⟩ := hK (T'.setVm vm') rfl XV
  exact ⟨t2, hst.trans (stV _ st2), hq2⟩
theorem lm2 (hlf : l.stackTraces = false) (hc : cSt μ t σ) (hO : sOkS σ) (ho : ¬ gdom D o) (hE : manE σ x1 x2 = 2) : LMet l (lmPc D μ o g x1 x2) (lmQ D μ o (manE σ x1 x2) (manV σ x1 x2)) (oA D o) := by
  refine LMet.ofW (fun p e s m args below meth c s₁ B hml hv hhs => ?_)
  obtain ⟨rfl, hh, hk, hz, hn⟩ := hv
  have hts0 := atoms_spec (ws := gwL) B.pre
  have hts : ∀ w ∈ gw, w.before ([.ref (D.2.2 9 0), .int x1, .int x2, .ref o] : List Value).toArray s = true := fun w hw => hts0 w (List.mem_cons_of_mem _ hw)
  have hown : s.vm.findClass RL = some m.cls := findClass_of_methodNamed B.named
  have hret := B.returns
  have hlk := B.notSynchronized
  have hol : o < s.heap.size := (hh.2 0 _ rfl).lt
  have hl := lv_entry ([.ref (D.2.2 9 0), .int x1, .int x2, .ref o]) (n := 5) (Nat.le_of_ble_eq_true rfl)
  rw [lg_entry_eq]
  generalize (lg_sl ([.ref (D.2.2 9 0), .int x1, .int x2, .ref o]) ++ List.replicate (5 - (lg_sl ([.ref (D.2.2 9 0), .int x1, .int x2, .ref o])).length) Slot.unset).toArray = ls at hl ⊢
  have hl : lv_has ls 5 [(0, .ref (D.2.2 9 0)), (1, .int x1), (2, .int x2), (3, .ref o)] := hl
  refine lv_aload_n B.exec B.bytes dL_man_0 rfl (lv_at hl 3 rfl) ?_
  refine lv_iconst (v := nI 0) B.exec B.bytes dL_man_1 (by decide) ?_
  refine lv_aload_n B.exec B.bytes dL_man_2 rfl (lv_at hl 0 rfl) ?_
  refine lv_iload_n B.exec B.bytes dL_man_3 rfl (lv_at hl 1 rfl) ?_
  refine lv_iload_n B.exec B.bytes dL_man_4 rfl (lv_at hl 2 rfl) ?_
  obtain ⟨q, he⟩ := ob9 D μ
  obtain ⟨ww1, ww2, ww3, ww4, ww5, ww6, ww7⟩ := ca_L_7
  have hB : CallW rmL s ([.ref (D.2.2 9 0), .int x1, .int x2, .ref o] : List Value).toArray RL (gCn 9) 7 yX9_man cX9_man 4 (some .int) (gws yX9_man cX9_man 4 (some .int)) trm 1 6 2 := ⟨callB_of 2 hts (gws_in ww1) rfl rfl rfl (hts _ ww5) (hts _ ww2) ww7 ⟨by decide, by decide⟩, hts _ ww3, hts _ ww4⟩
  intro T hT X
  obtain ⟨v, st₀, tt, T', Lx, hs0, X', hLx, eh, ev, hq, hst⟩ := runT (g := F0 m 5 ls [.int x2, .int x1, .ref (D.2.2 9 0), .int (nI 0), .ref o]) (As := [.int x1, .int x2]) (rest := [.int (nI 0), .ref o]) (b := D.2.2 9 0) ⟨B.exec, B.bytes, hml, hown, hts⟩ (t_X9_man2 (D := D) (x2 := x2) hlf hc hO hE) hB ⟨lmblind, va_recv hk.1 hh.1.1 (ci := 9) (q0 := q) rfl he, fun U hU hW => ⟨rfl, by rw [hU]; exact hh.1, gK.warm hU va_S.rf hW hk, by rw [hU]; exact hz.go hW.alike va_S.rf (fun _ h => h)⟩⟩ rfl rfl hl.1 rfl (lv_room (Nat.le_of_ble_eq_true rfl)) dL_man_5 ⟨by decide, by decide⟩ T hT X
  obtain ⟨hgh, -, hge, ⟨ce, cX, hce, hfX, hcc, hcv⟩, hszt, hkp⟩ := hq
  rw [hs0] at hge hszt hkp
  have hal : s.vm.Alike tt.vm := by rw [← ev]; exact X'.warmed.alike
  rw [hal.findClass] at hfX
  obtain ⟨x, y, hxy, ⟨xA, xB, xC, xD⟩, yA, yB, yC, yD⟩ := hsL_spec hhs
  have hcv9 : ce.vm.isStatics = false := by rw [hcv]; rfl
  have hcov : covers x 5 = true := by simp [covers, xA, xB]
  have hcovY : covers y 5 = true := by simp [covers, yA, yB]
  obtain ⟨cN, cI, nn1, nn2, nn3⟩ := hn
  cases hfX.symm.trans nn1
  obtain ⟨vm', XV, stV⟩ := caught2 X' v (g := { F0 m 5 ls [.int x2, .int x1, .ref (D.2.2 9 0), .int (nI 0), .ref o] with stack := [.int (nI 0), .ref o] }) rfl (own := RL) (n1 := "java/lang/IndexOutOfBoundsException") (n2 := "java/util/NoSuchElementException") hown x y [] hxy hcov (by rw [xD]; decide) hcovY (by rw [yD]; decide) (by rw [xD]; exact hts _ (gw_t 1112 (by decide +kernel) (by decide +kernel))) (by rw [yD]; exact hts _ (gw_t 1113 (by decide +kernel) (by decide +kernel))) nn2 nn1 (by rw [eh]; exact hce) hcv9 (by rw [hcc]; exact nn3) (by rw [hcc]; exact Jvm.Free.SB.assignable_self _ _)
  rw [yC] at stV
  have hK : W p l e rmL s m ([.ref (D.2.2 9 0), .int x1, .int x2, .ref o] : List Value).toArray below meth c T'.heap ([] ++ Lx) (0 + 1) (0 + 6) (MQ below (lmQ D μ o (manE σ x1 x2) (manV σ x1 x2)) ([.ref (D.2.2 9 0), .int x1, .int x2, .ref o] : List Value).toArray s 1 6 (oA D o)) (F0 m 17 ls [.ref v]) := by
    refine lv_astore B.exec B.bytes dL_man_17 hl (by decide) rfl (fun ls' hl' => ?_)
    refine lv_iconst (v := 2) B.exec B.bytes dL_man_19 (by decide) ?_
    refine W.iret (v := 2) B.exec B.bytes hret (fun t9 ht9 hW9 => ⟨⟨g, by rw [hE], fun h0 => ?_, ⟨?_, ?_⟩⟩, ?_, ?_⟩) (fun q9 hq9 => Or.inl (hLx q9 hq9)) dL_man_20
    · rw [hE] at h0
      exact absurd h0 (by decide)
    · rw [ht9, eh]
      exact hgh
    · rw [ht9, eh]
      exact hh.2.kept (fun k9 q9 hq9 => hkp q9.1 ((hh.2 k9 q9 hq9).lt) (oA_no ho k9 q9 hq9))
    · rw [ht9, eh]
      exact hszt
    · intro q9 hlt hA
      rw [ht9, eh]
      exact hkp q9 hlt (fun hg => hA (Or.inl hg))
  obtain ⟨t2, st2, hq2⟩ := hK (T'.setVm vm') rfl XV
  exact ⟨t2, hst.trans (stV _ st2), hq2⟩
theorem lmA (hlf : l.stackTraces = false) (hc : cSt μ t σ) (hO : sOkS σ) (ho : ¬ gdom D o) : LMet l (lmPc D μ o g x1 x2) (lmQ D μ o (manE σ x1 x2) (manV σ x1 x2)) (oA D o) := by
  have h3 : manE σ x1 x2 = 0 ∨ manE σ x1 x2 = 1 ∨ manE σ x1 x2 = 2 := by
    unfold manE
    by_cases hM : isM (eMen σ.1.1) x1
    · by_cases hR : inR x2 0 7
      · rw [if_pos hM, if_pos hR]
        exact Or.inl rfl
      · rw [if_pos hM, if_neg hR]
        exact Or.inr (Or.inr rfl)
    · rw [if_neg hM]
      exact Or.inr (Or.inl rfl)
  rcases h3 with h3 | h3 | h3
  · exact lm0 hc hO ho h3
  · exact lm1 hlf hc hO ho h3
  · exact lm2 hlf hc hO ho h3
end LM0
