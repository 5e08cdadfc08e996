/-! MAN, the two throws of the class -/
section MT2
variable {p : Program} {l : Launch} {e : Env} {R : Room} {s : State} {m : MethodId} {args : Array Value} {below : List Frame} {meth : Method} {c : Code} {H : Heap} {locs : List Loc} {cells slots : Nat} {Q : State → Prop} {own : String} {cc : ByteArray} {pc : Nat} {ls : Array Slot} {rest : List Value} {D : gD} {μ : gMem}
theorem w_gfR {k i j k' i' index : Nat} (hexec : p.tables.exec = Jvm.exec) (hb : c.code = cc) (hts : ∀ w ∈ gw, w.before args s = true) (hown : s.vm.findClass own = some m.cls) (hk : va_K D.1 vwCl (gtys D) s) (hh : ghold D μ H) (hF : gFL own index k j) (hr : grf k i j μ.2.2 = some (k', i')) (hi : i < gkn k) (hdg : decode cc pc = .ok (.getfield index, 3))
    (kk : W p l e R s m args below meth c H locs cells slots Q (F0 m (pc + 3) ls (.ref (D.2.2 k' i') :: rest))) (h53 : ¬ (k = 5 ∧ j = 3) := by decide) : W p l e R s m args below meth c H locs cells slots Q (F0 m pc ls (.ref (D.2.2 k i) :: rest)) := by
  obtain ⟨⟨oo1, oo2, oo3, oo4, oo5, oo6⟩, hj, hw⟩ := hF
  obtain ⟨q, hq⟩ := gpos hi
  have he := gat (D := D) (μ := μ) hq
  have ee1 : gE D μ.2.2 (μ.1 k i) (μ.2.1 k i) k i = .inr (k, (List.range (gsh k).2.2).map (gsv D μ.2.2 (μ.1 k i) (μ.2.1 k i) k i)) := by
    unfold gE
    rw [oo1]
    rfl
  rw [ee1] at he
  have hv : gsv D μ.2.2 (μ.1 k i) (μ.2.1 k i) k i j = .ref (D.2.2 k' i') := gsv_ref hr (fun z => h53 ⟨z.1, z.2.1⟩)
  exact va_get (D := D.1) (ci := k) (v := .ref (D.2.2 k' i')) (C := gCn k) (T := gTt k) (N := (gsh k).2.2) hexec hb hts oo4 hown hk hh.1 q he oo3 j hj (hts _ hw) (fun _ h9 => h9) (by simp [hj, hv]) hdg kk
theorem w_aald {i : Nat} (j : Nat) {x : Int32} (hexec : p.tables.exec = Jvm.exec) (hb : c.code = cc) (hk : va_K D.1 vwCl (gtys D) s) (hh : ghold D μ H) (hi : i < 3) (hj : j < 5) (hx : x = nI j) (hdg : decode cc pc = .ok (.aaload, 1))
    (kk : W p l e R s m args below meth c H locs cells slots Q (F0 m (pc + 1) ls (.ref (D.2.2 4 (5 * i + j)) :: rest))) : W p l e R s m args below meth c H locs cells slots Q (F0 m pc ls (.int x :: .ref (D.2.2 576 i) :: rest)) := by
  obtain ⟨q, hq⟩ := gpos (k := 576) (i := i) hi
  have he := gat (D := D) (μ := μ) hq
  subst hx
  refine va_aldq (C := "WristGoal$Person") hexec hb hk hh.1 q 4 he rfl (vp_in_nI (N := 5) hj (by decide)) hdg ?_
  rw [nI_clamp (Nat.lt_trans hj (by decide))]
  exact kk
theorem w_isMan {x1 : Int32} (hexec : p.tables.exec = Jvm.exec) (hb : c.code = cX9_man) (hml : c.maxLocals = 4) (hts : ∀ w ∈ gw, w.before args s = true) (hown : s.vm.findClass RX9 = some m.cls) (hk : gK D s) (hh : ghold D μ s.heap) (hlz : ls.size = 4) (hR : μ.2.2 0 < 2)
    (kk : ∀ (H1 : Heap) (locs1 : List Loc), ghold D μ H1 → va_S (gdom D) s.heap H1 locs1 → W p l e trm s m args below meth c H1 locs1 0 0 Q (F0 m 5 ls [.int (iw x1 (0 : Int32) (μ.1 7 (μ.2.2 0) 0 - (1 : Int32)))])) : W p l e trm s m args below meth c s.heap [] 0 0 Q (F0 m 2 ls [.int x1, .ref (D.2.2 9 0)]) := by
  obtain ⟨q, hq⟩ := gpos (k := 9) (i := 0) (by decide)
  have he := gat (D := D) (μ := μ) hq
  have ee1 : gE D μ.2.2 (μ.1 9 0) (μ.2.1 9 0) 9 0 = .inr (9, (List.range (gsh 9).2.2).map (gsv D μ.2.2 (μ.1 9 0) (μ.2.1 9 0) 9 0)) := rfl
  rw [ee1] at he
  obtain ⟨ww1, ww2, ww3, ww4, ww5, ww6, ww7⟩ := ca_X9_121
  have hB : CallW trm s args RX9 (gCn 9) 121 yX9_isMan cX9_isMan 2 (some .boolean) (gws yX9_isMan cX9_isMan 2 (some .boolean)) (grm 1) 0 0 1 := ⟨callB_of 1 hts (gws_in ww1) rfl rfl rfl (hts _ ww5) (hts _ ww2) ww7 ⟨by decide, by decide⟩, hts _ ww3, hts _ ww4⟩
  refine g_run (D := D) (pc := 2) (va_runV (As := [.int x1]) (rest := []) (b := D.2.2 9 0) ⟨hexec, hb, hml, hown, hts⟩ (c_X9_isMan (d := 1) (Nat.le_refl _) (by decide) hR) hB ⟨gblind, va_recv hk.1 hh.1 (ci := 9) (q0 := q) rfl he, fun U hU hW => ⟨rfl, by rw [hU]; exact hh, gK.warm hU va_S.rf hW hk⟩⟩ rfl rfl hlz rfl (lv_room (Nat.le_of_ble_eq_true rfl)) dX9_man_2 ⟨Nat.zero_le _, Nat.zero_le _⟩) va_S.rf (fun r μ' H1 locs1 hp hh1 hS1 => ?_)
  obtain ⟨v, hr, hv, hμ⟩ := hp
  subst hr
  subst hv
  rw [hμ] at hh1
  exact kk H1 locs1 hh1 hS1
end MT2
def manPc (D : gD) (μ : gMem) (x1 x2 : Int32) : Array Value → State → Prop := va_Pc [.ref (D.2.2 9 0), .int x1, .int x2] (fun U => ghold D μ U.heap ∧ gK D U ∧ zLs (gdom D) U U.heap)
section MT3
variable {l : Launch} {D : gD} {μ : gMem} {t : Nat} {σ : sV} {x1 x2 : Int32}
theorem t_X9_man1 (hlf : l.stackTraces = false) (hc : cSt μ t σ) (hO : sOkS σ) (hE : manE σ x1 x2 = 1) : MetT l yX9_man (gws yX9_man cX9_man 4 (some .int)) trm (manPc D μ x1 x2) (manTQ D μ "java/lang/IndexOutOfBoundsException") 1 6 (gdom D) := by
  have h := hc.nC hO
  have ht2 : μ.2.2 0 < 2 := by rw [h.1]; exact h.2.1
  have hM : ¬ isM (eMen σ.1.1) x1 := by
    intro hM
    rw [manE, if_pos hM] at hE
    by_cases hR : inR x2 0 7
    · rw [if_pos hR] at hE
      exact absurd hE (by decide)
    · rw [if_neg hR] at hE
      exact absurd hE (by decide)
  have hiw : iw x1 (0 : Int32) (μ.1 7 (μ.2.2 0) 0 - (1 : Int32)) = 0 := by
    rw [h.1, h.iw]
    exact hM
  refine MetT.ofW (cc := cX9_man) (maxL := 4) (ret := some .int) (by decide) rfl ?_
  intro p e s m args below meth c s₁ B hml hv
  obtain ⟨rfl, hh, hk, hz⟩ := hv
  have hts0 := atoms_spec (ws := gws yX9_man cX9_man 4 (some .int)) B.pre
  have hts : ∀ w ∈ gw, w.before ([.ref (D.2.2 9 0), .int x1, .int x2] : List Value).toArray s = true := fun w hw => hts0 w (List.mem_cons_of_mem _ hw)
  have hown : s.vm.findClass RX9 = some m.cls := findClass_of_methodNamed B.named
  have hne := B.noHandlers (hts0 _ List.mem_cons_self)
  have hl := lv_entry ([.ref (D.2.2 9 0), .int x1, .int x2]) (n := 4) (Nat.le_of_ble_eq_true rfl)
  rw [lg_entry_eq]
  generalize (lg_sl ([.ref (D.2.2 9 0), .int x1, .int x2]) ++ List.replicate (4 - (lg_sl ([.ref (D.2.2 9 0), .int x1, .int x2])).length) Slot.unset).toArray = ls at hl ⊢
  have hl : lv_has ls 4 [(0, .ref (D.2.2 9 0)), (1, .int x1), (2, .int x2)] := hl
  refine lv_aload_n B.exec B.bytes dX9_man_0 rfl (lv_at hl 0 rfl) ?_
  refine lv_iload_n B.exec B.bytes dX9_man_1 rfl (lv_at hl 1 rfl) ?_
  refine w_isMan B.exec B.bytes hml hts hown hk hh hl.1 ht2 (fun H1 locs1 hh1 hS1 => ?_)
  refine lv_if_ne B.exec B.bytes dX9_man_5 (tgt := 18) rfl (fun hne9 => absurd hiw hne9) (fun _ => ?_)
  exact man_end B.exec B.bytes (by rw [hml]; exact hl.1) B.notSynchronized hne (by rw [hml]; decide) hlf hown hts hk hz hh1 hS1 (ik := 125) (ic := 129) (ix := 7) (b1 := xbI) (by decide +kernel) (by decide +kernel) (by decide +kernel) (by decide +kernel) (by decide +kernel) (th_ok thW1_g thW1_b hts hz) (gw_t 1118 (by decide +kernel) (by decide +kernel)) (gw_t 1119 (by decide +kernel) (by decide +kernel)) (gw_t 22 (by decide +kernel) (by decide +kernel)) hk.2.2.2.2.2.2.1 dX9_man_8 dX9_man_11 dX9_man_12 dX9_man_14 dX9_man_17
theorem t_X9_man2 (hlf : l.stackTraces = false) (hc : cSt μ t σ) (hO : sOkS σ) (hE : manE σ x1 x2 = 2) : MetT l yX9_man (gws yX9_man cX9_man 4 (some .int)) trm (manPc D μ x1 x2) (manTQ D μ "java/util/NoSuchElementException") 1 6 (gdom D) := by
  have h := hc.nC hO
  have ht2 : μ.2.2 0 < 2 := by rw [h.1]; exact h.2.1
  have hM : isM (eMen σ.1.1) x1 := by
    by_cases hM : isM (eMen σ.1.1) x1
    · exact hM
    · rw [manE, if_neg hM] at hE
      exact absurd hE (by decide)
  have hR : ¬ inR x2 0 7 := by
    intro hR
    rw [manE, if_pos hM, if_pos hR] at hE
    exact absurd hE (by decide)
  have hout : x2.toInt < 0 ∨ 7 < x2.toInt := by
    by_cases hlo : x2.toInt < 0
    · exact Or.inl hlo
    · by_cases hhi : 7 < x2.toInt
      · exact Or.inr hhi
      · exact absurd ⟨by omega, by omega⟩ hR
  have h5 : eMen σ.1.1 ≤ 5 := h.men
  obtain ⟨mA, mB⟩ := isM_ix hM
  have hix : ix x1 < 5 := by omega
  have hiw : ¬ iw x1 (0 : Int32) (μ.1 7 (μ.2.2 0) 0 - (1 : Int32)) = 0 := by
    rw [h.1, h.iw]
    exact fun hn => hn hM
  refine MetT.ofW (cc := cX9_man) (maxL := 4) (ret := some .int) (by decide) rfl ?_
  intro p e s m args below meth c s₁ B hml hv
  obtain ⟨rfl, hh, hk, hz⟩ := hv
  have hts0 := atoms_spec (ws := gws yX9_man cX9_man 4 (some .int)) B.pre
  have hts : ∀ w ∈ gw, w.before ([.ref (D.2.2 9 0), .int x1, .int x2] : List Value).toArray s = true := fun w hw => hts0 w (List.mem_cons_of_mem _ hw)
  have hown : s.vm.findClass RX9 = some m.cls := findClass_of_methodNamed B.named
  have hne := B.noHandlers (hts0 _ List.mem_cons_self)
  have hl := lv_entry ([.ref (D.2.2 9 0), .int x1, .int x2]) (n := 4) (Nat.le_of_ble_eq_true rfl)
  rw [lg_entry_eq]
  generalize (lg_sl ([.ref (D.2.2 9 0), .int x1, .int x2]) ++ List.replicate (4 - (lg_sl ([.ref (D.2.2 9 0), .int x1, .int x2])).length) Slot.unset).toArray = ls at hl ⊢
  have hl : lv_has ls 4 [(0, .ref (D.2.2 9 0)), (1, .int x1), (2, .int x2)] := hl
  refine lv_aload_n B.exec B.bytes dX9_man_0 rfl (lv_at hl 0 rfl) ?_
  refine lv_iload_n B.exec B.bytes dX9_man_1 rfl (lv_at hl 1 rfl) ?_
  refine w_isMan B.exec B.bytes hml hts hown hk hh hl.1 ht2 (fun H1 locs1 hh1 hS1 => ?_)
  refine lv_if_ne B.exec B.bytes dX9_man_5 (tgt := 18) rfl (fun _ => ?_) (fun hn0 => absurd hn0 hiw)
  refine lv_aload_n B.exec B.bytes dX9_man_18 rfl (lv_at hl 0 rfl) ?_
  refine w_gfR B.exec B.bytes hts hown hk.1 hh1 fl_9_38 rfl (by decide) dX9_man_19 ?_
  refine w_gfR B.exec B.bytes hts hown hk.1 hh1 fl_9_132 rfl (by decide) dX9_man_22 ?_
  refine lv_iload_n B.exec B.bytes dX9_man_25 rfl (lv_at hl 1 rfl) ?_
  refine w_aald (ix x1) B.exec B.bytes hk.1 hh1 (by decide) hix mA dX9_man_26 ?_
  refine lv_astore_n B.exec B.bytes dX9_man_27 rfl hl (by decide) rfl (fun ls' hl' => ?_)
  refine lv_iload_n B.exec B.bytes dX9_man_28 rfl (lv_look hl' rfl) ?_
  refine lv_tableOut B.exec B.bytes (tgt := 121) dX9_man_29 hout rfl ?_
  exact man_end B.exec B.bytes (by rw [hml]; exact hl'.1) B.notSynchronized hne (by rw [hml]; decide) hlf hown hts hk hz hh1 hS1 (ik := 162) (ic := 166) (ix := 13) (b1 := xbN) (by decide +kernel) (by decide +kernel) (by decide +kernel) (by decide +kernel) (by decide +kernel) (th_ok thW2_g thW2_b hts hz) (gw_t 1184 (by decide +kernel) (by decide +kernel)) (gw_t 1185 (by decide +kernel) (by decide +kernel)) (gw_t 23 (by decide +kernel) (by decide +kernel)) hk.2.2.2.2.2.2.2 dX9_man_121 dX9_man_124 dX9_man_125 dX9_man_127 dX9_man_130
end MT3
