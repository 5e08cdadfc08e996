/-! MAN, the throws -/
def MetT (l : Launch) (y : MethodName) (ws : List Cond) (rm : Room) (Pc : Array Value → State → Prop) (Qx : Array Value → State → Addr → State → Prop) (mc ms : Nat) (free : Addr → Prop) : Prop :=
  MetFree l y (headSpec ws rm) Pc (fun _ _ _ _ _ => True) (fun a st o t => (∃ v, o = .threw v ∧ Qx a st v t) ∧ ∃ Lx, Jvm.Free.FrameEndT st o t Lx mc ms ∧ ∀ q ∈ Lx, free q.base)
def MTQ (below : List Frame) (Qx : Array Value → State → Addr → State → Prop) (a : Array Value) (s : State) (mc ms : Nat) (free : Addr → Prop) : State → Prop := fun t =>
  ∃ o, t.status = .running ∧ Ended t below o ∧ (∃ v, o = .threw v ∧ Qx a s v t) ∧ ∃ Lx, Jvm.Free.FrameEndT s o t Lx mc ms ∧ ∀ q ∈ Lx, free q.base
theorem MetT.ofW {l : Launch} {y : MethodName} {ws ws' : List Cond} {rm : Room} {Pc : Array Value → State → Prop} {Qx : Array Value → State → Addr → State → Prop} {mc ms : Nat} {free : Addr → Prop} {cc : ByteArray} {maxL : Nat} {ret : Option FieldType}
    (hy : plainName y.cls = true) (hw : ws = Cond.code y cc maxL ret :: ws')
    (body : ∀ p e s m args below meth c s₁, BodyLoose p l y (headSpec ws rm) cc maxL ret e s m args below meth c s₁ → c.maxLocals = maxL → Pc args s →
      W p l e (headSpec ws rm).room s m args below meth c s.heap [] 0 0 (MTQ below Qx args s mc ms free) (entryFrame m args maxL)) : MetT l y ws rm Pc Qx mc ms free := by
  refine MetFree.of_bodyS (code := cc) (maxLocals := maxL) (ret := ret) hy ?_ ?_
  · intro args s m h hn
    obtain ⟨meth, c, hh1, hh2, hh3, hh4, hh5, hh6, -, -⟩ := Cond.code_spec hn (atoms_spec (ws := ws) h _ (by rw [hw]; exact List.mem_cons_self))
    exact ⟨meth, c, hh1, hh2, hh3, hh4, hh5, hh6⟩
  · intro p e s m args below meth c s₁ B hml hP _
    have hh0 : s₁.heap = s.heap := by rw [B.state]; rfl
    obtain ⟨t, aa1, o, bb1, bb2, bb3⟩ := body p e s m args below meth c s₁ B hml hP s₁ hh0 (Stand.of_body B)
    exact ⟨t, o, aa1, bb1, bb2, bb3.1, bb3.2⟩
def thL1 : Cond := .laysStatic "java/lang/Throwable" "UNASSIGNED_STACK" "[Ljava/lang/StackTraceElement;"
def thL2 : Cond := .laysStatic "java/lang/Throwable" "SUPPRESSED_SENTINEL" "Ljava/util/List;"
def xnI : String := "java/lang/IndexOutOfBoundsException"
def xnN : String := "java/util/NoSuchElementException"
def xbI : ByteArray := prog_17_method_2_code
def xbN : ByteArray := prog_28_method_4_code
def thW1 : List Cond := thW "WristGoal" 129 "java/lang/IndexOutOfBoundsException" 7 xbI
def thW2 : List Cond := thW "WristGoal" 166 "java/util/NoSuchElementException" 13 xbN
theorem thW1_g : ∀ w ∈ thW1.filter goodWord, w ∈ gw := gw_l [19, 1140, 1149, 1152, 1155, 1157, 1141, 1142, 30, 31, 1143, 1148, 1153, 1173, 1130, 1174, 1132, 1175, 1134, 1144, 1146, 1136, 1169, 1170, 1172, 1136, 1160, 1161, 1162, 1163, 1163, 1164, 1165, 1166, 1166, 1167, 1168, 1169, 1159, 1119, 1127, 1128, 1129, 1131, 1133, 1135, 1139, 1138, 1137] (by decide +kernel) (by decide +kernel)
theorem thW2_g : ∀ w ∈ thW2.filter goodWord, w ∈ gw := gw_l [19, 1140, 1149, 1152, 1155, 1157, 1141, 1142, 30, 31, 1143, 1148, 1153, 1173, 1130, 1174, 1132, 1175, 1134, 1144, 1146, 1136, 1169, 1170, 1172, 1136, 1195, 1196, 1197, 1163, 1163, 1164, 1165, 1166, 1166, 1167, 1168, 1169, 1194, 1185, 1187, 1151, 1188, 1189, 1190, 1191, 1139, 1138, 1192] (by decide +kernel) (by decide +kernel)
def thD1 : Cond := .declares (Jvm.Bundle.initS "java/lang/RuntimeException")
def thD2 : Cond := .declares (Jvm.Bundle.initS "java/lang/Exception")
def thD3 : Cond := .declares (Jvm.Bundle.initS "java/lang/Throwable")
theorem decl_of {y : MethodName} {args : Array Value} {s : State} {bytes : ByteArray} {maxL : Nat} {ret : Option FieldType} (hi : (Cond.instanceMethod y).before args s = true) (hc : (Cond.code y bytes maxL ret).before args s = true) : (Cond.declares y).before args s = true := by
  obtain ⟨mm, meth, hh1, hh2, hh3, -⟩ := Cond.instanceMethod_spec hi
  obtain ⟨meth', cd, hh4, -, -, -, -, -, -, hh5⟩ := Cond.code_spec hh1 hc
  cases hh2.symm.trans hh4
  simp [Cond.before, Cond.holds, Cond.value, hh1, hh2, hh3, hh5]
theorem thW1_b : thW1.filter (fun w => !goodWord w) = [thL1, thL2, thD1, thD2, thD3] := by decide +kernel
theorem thW2_b : thW2.filter (fun w => !goodWord w) = [thL1, thL2, thD1, thD2, thD3] := by decide +kernel
theorem th_ok {wl : List Cond} (hg : ∀ w ∈ wl.filter goodWord, w ∈ gw) (hb : wl.filter (fun w => !goodWord w) = [thL1, thL2, thD1, thD2, thD3]) {args : Array Value} {s : State} (hts : ∀ w ∈ gw, w.before args s = true) {A : Nat → Prop} (hz : zLs A s s.heap) : ∀ w ∈ wl, w.before args s = true := by
  intro w hw
  by_cases hgw : goodWord w = true
  · exact hts w (hg w (List.mem_filter.mpr ⟨hw, hgw⟩))
  · have hm : w ∈ wl.filter (fun w => !goodWord w) := List.mem_filter.mpr ⟨hw, by simp [hgw]⟩
    rw [hb] at hm
    simp only [List.mem_cons, List.not_mem_nil, or_false] at hm
    rcases hm with rfl | rfl | rfl | rfl | rfl
    · exact hz.1.word
    · exact hz.2.word
    · exact decl_of (bytes := prog_19_method_2_code) (maxL := 2) (ret := none) (hts _ (gw_t 1163 (by decide +kernel) (by decide +kernel))) (hts _ (gw_t 1164 (by decide +kernel) (by decide +kernel)))
    · exact decl_of (bytes := prog_16_method_2_code) (maxL := 2) (ret := none) (hts _ (gw_t 1166 (by decide +kernel) (by decide +kernel))) (hts _ (gw_t 1167 (by decide +kernel) (by decide +kernel)))
    · exact decl_of (bytes := prog_24_method_2_code) (maxL := 2) (ret := none) (hts _ (gw_t 1169 (by decide +kernel) (by decide +kernel))) (hts _ (gw_t 1170 (by decide +kernel) (by decide +kernel)))
def trm : Room := { frames := 8, cells := 1, slots := 6, locals := 400 }
/-- behind the throw -/
def manTQ (D : gD) (μ : gMem) (cls : String) : Array Value → State → Addr → State → Prop := fun _ st v t => ghold D μ t.heap ∧ gK D t ∧ st.heap.size ≤ v ∧ (∃ (ce : Cell) (cX : ClassId), t.heap[v]? = some ce ∧ t.vm.findClass cls = some cX ∧ ce.cls = cX ∧ ce.vm = .none) ∧ st.heap.size ≤ t.heap.size ∧ ∀ q, q < st.heap.size → ¬ gdom D q → t.heap[q]? = st.heap[q]?
/-- the row of a new exception thrown with a text, at the end of a method without handlers -/
theorem man_end {D : gD} {μ : gMem} {l : Launch} {p : Program} {e : Env} {s : State} {m : MethodId} {args : Array Value} {below : List Frame} {meth : Method} {c : Code} {H : Heap} {locs : List Loc} {ls : Array Slot} {pc : Nat} {cc : ByteArray}
    (hexec : p.tables.exec = Jvm.exec) (hb : c.code = cc) (hsz : ls.size = c.maxLocals) (hlocks : meth.locks = false) (hne : c.exceptionTable.isEmpty = true) (hcx : c.maxLocals ≤ 40) (hlf : l.stackTraces = false) (hown : s.vm.findClass "WristGoal" = some m.cls) (hts : ∀ w ∈ gw, w.before args s = true) (hk : gK D s) (hz : zLs (gdom D) s s.heap) (hh : ghold D μ H) (hS : va_S (gdom D) s.heap H locs)
    {cls : String} {ik ic ix iL : Nat} {b1 : ByteArray} {tx : String} {aT : Nat} (hfit : Jvm.Bundle.fit cls = true) (hb0 : decode b1 0 = .ok (.aload_n 0, 1)) (hb1 : decode b1 1 = .ok (.aload_n 1, 1)) (hb2 : decode b1 2 = .ok (.invokespecial ix, 3)) (hb5 : decode b1 5 = .ok (.return_, 1)) (hw : ∀ w ∈ thW "WristGoal" ic cls ix b1, w.before args s = true)
    (hcl : Cond.classLink "WristGoal" ik cls ∈ gw) (hin : Cond.instantiable cls 6 ∈ gw) (hini : Cond.initialized cls ∈ gw) (hR : vk_R "WristGoal" iL tx aT s)
    (d0 : decode cc pc = .ok (.new ik, 3)) (d3 : decode cc (pc + 3) = .ok (.dup, 1)) (d4 : decode cc (pc + 3 + 1) = .ok (.ldc iL, 2)) (d6 : decode cc (pc + 3 + 1 + 2) = .ok (.invokespecial ic, 3)) (d9 : decode cc (pc + 3 + 1 + 2 + 3) = .ok (.athrow, 1)) :
    W p l e trm s m args below meth c H locs 0 0 (MTQ below (manTQ D μ cls) args s 1 6 (gdom D)) (F0 m pc ls []) := by
  obtain ⟨cX, kX0, hfX, hkX0, -⟩ := Cond.instantiable_spec (hts _ hin)
  refine W.newcK (C := cls) (n := 6) hexec hb hown (hts _ hcl) (hts _ hin) (hts _ hini) (cC := cX) rfl d0 (by decide) (by decide) hfX rfl (fun H2 kC hkC ee1 zz1 oo1 => ?_)
  refine W.eq (g2 := F0 m (pc + 3) ls [.ref H.size]) rfl ?_
  refine lv_dup hexec hb d3 rfl ?_
  refine va_ldcS hexec hb hown hR d4 ?_
  intro T hT X
  have hkeep : ∀ a : Nat, a < s.heap.size → ¬ gdom D a → T.heap[a]? = s.heap[a]? := fun a hlt hA => by
    rw [hT, oo1 a (Nat.lt_of_lt_of_le hlt hS.1)]
    exact hS.2.1 a hlt hA
  have htr : e.platform.stackTraces = false := by rw [X.admits.platform]; exact hlf
  have hout : ∀ x ∈ c.exceptionTable.toList, covers x (pc + 3 + 1 + 2 + 3) = false := fun x hx => by
    rw [Array.isEmpty_iff.mp hne] at hx
    exact absurd hx List.not_mem_nil
  obtain ⟨U, hst, hrun, hend, hWU, hsame, ⟨ce, hce, hcc, hcv⟩, hszU, hoff⟩ := thrw X hexec htr (own := "WristGoal") (cls := cls) (ic := ic) (ix := ix) (b1 := b1) hown hfit hb0 hb1 hb2 hb5 hw (A := gdom D) (hk.2.2.2.1.2.kept hkeep) (hk.2.2.2.1.1.kept hkeep) (a := H.size) hfX hkC (by rw [hT]; exact ee1) hS.1 (msg := .ref aT) rfl (g := F0 m (pc + 3 + 1 + 2) ls [.ref aT, .ref H.size, .ref H.size]) rfl hsz rfl rfl (rest := []) rfl (by rw [hb]; exact d6) (by rw [hb]; exact d9) hout (by decide) (Nat.le_of_ble_eq_true rfl) hlocks
  have hUq : ∀ q, q < H.size → U.heap[q]? = H[q]? := fun q hq => by
    rw [hoff q (Nat.ne_of_lt hq), hT]
    exact oo1 q hq
  have hUS : va_S (gdom D) s.heap U.heap [] := by
    refine ⟨by rw [hszU, hT, zz1]; exact Nat.le_succ_of_le hS.1, fun q hlt hA => ?_, fun _ h => by cases h⟩
    rw [hUq q (Nat.lt_of_lt_of_le hlt hS.1)]
    exact hS.2.1 q hlt hA
  refine ⟨U, hst, .threw H.size, hrun, hend, ⟨H.size, rfl, ?_, gK.warm rfl hUS hWU hk, hS.1, ⟨ce, cX, hce, ?_, hcc, hcv⟩, ?_, fun q hlt hA => hUS.2.1 q hlt hA⟩, locs, ⟨⟨_, rfl⟩, hWU, hsame⟩, hS.2.2⟩
  · exact ⟨hh.1.kept (fun k q hq => hUq q.1 ((hh.1 k q hq).lt)), hh.2⟩
  · rw [hWU.alike.findClass]
    exact hfX
  · exact hUS.1
