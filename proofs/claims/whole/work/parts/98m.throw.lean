/-! THROWS: a new exception with a text, made and thrown (no stack traces) -/
def thW (own : String) (ic : Nat) (cls : String) (ix : Nat) (b1 : ByteArray) : List Cond :=
  Jvm.Bundle.throwableAtoms ++ (Jvm.Bundle.throwableSAtoms ++ (Jvm.Bundle.passSAtoms cls "java/lang/RuntimeException" ix b1 ++ (Jvm.Bundle.chainSAtoms "java/lang/RuntimeException" ["java/lang/Exception"] ++
  [.methodLink own ic (Jvm.Bundle.initS cls), .instantiable cls 6, .selects cls Jvm.Bundle.tFill0 Jvm.Bundle.tFill0, .selects cls Jvm.Bundle.tFill Jvm.Bundle.tFill, .lays cls Jvm.Bundle.tN "cause" "Ljava/lang/Throwable;", .lays cls Jvm.Bundle.tN "stackTrace" Jvm.Bundle.steD, .lays cls Jvm.Bundle.tN "suppressedExceptions" Jvm.Bundle.listD, .lays cls Jvm.Bundle.tN "detailMessage" "Ljava/lang/String;", .fieldLink Jvm.Bundle.tN 198 Jvm.Bundle.tN "backtrace" "Ljava/lang/Object;", .lays Jvm.Bundle.tN Jvm.Bundle.tN "backtrace" "Ljava/lang/Object;", .lays cls Jvm.Bundle.tN "backtrace" "Ljava/lang/Object;"])))
theorem va_Z.refv {nF dF : String} {A : Nat → Prop} {s : State} {H : Heap} (h : va_Zq Jvm.Bundle.tN nF dF A s H) : ∃ u : RefV, va_Z Jvm.Bundle.tN nF dF u.v A s H := by
  rcases h with h | ⟨t, h⟩
  · exact ⟨⟨.null, rfl⟩, h⟩
  · exact ⟨⟨.ref t, rfl⟩, h⟩
set_option maxHeartbeats 4000000 in
theorem thrw {p : Program} {l : Launch} {e : Env} {R : Room} {s : State} {m₀ : MethodId} {args : Array Value} {below : List Frame} {meth : Method} {c : Code} {S9 : State} {locs : List Loc} {cells slots : Nat} (X : Stand p l e R s m₀ args below meth c S9 locs cells slots) (hexec : p.tables.exec = Jvm.exec) (htr : e.platform.stackTraces = false)
    {own cls : String} {ic ix : Nat} {b1 : ByteArray} (hown : s.vm.findClass own = some m₀.cls) (hfit : Jvm.Bundle.fit cls = true) (hb0 : decode b1 0 = .ok (.aload_n 0, 1)) (hb1 : decode b1 1 = .ok (.aload_n 1, 1)) (hb2 : decode b1 2 = .ok (.invokespecial ix, 3)) (hb5 : decode b1 5 = .ok (.return_, 1))
    (hw : ∀ w ∈ thW own ic cls ix b1, w.before args s = true) {A : Nat → Prop} (hzU : va_Zq Jvm.Bundle.tN "UNASSIGNED_STACK" Jvm.Bundle.steD A s S9.heap) (hzS : va_Zq Jvm.Bundle.tN "SUPPRESSED_SENTINEL" Jvm.Bundle.listD A s S9.heap) {a : Addr}
    {cX : ClassId} {kX : Class} (hfX : s.vm.findClass cls = some cX) (hkX : s.vm.classes[cX]? = some kX) (hcell : S9.heap[a]? = some (freshCell cX kX)) (hnew : s.heap.size ≤ a) {msg : Value} (hmsg : msg.isRef = true)
    {g : JFrame} (hg : g.method = m₀) (hsize : g.locals.size = c.maxLocals) (hlocked : g.locked = none) (hentered : g.entered = []) {rest : List Value} (hstack : g.stack = msg :: .ref a :: .ref a :: rest)
    (hd6 : decode c.code g.pc = .ok (.invokespecial ic, 3)) (hd9 : decode c.code (g.pc + 3) = .ok (.athrow, 1)) (hout : ∀ x ∈ c.exceptionTable.toList, covers x (g.pc + 3) = false)
    (hRf : 5 < R.frames) (hRl : 2 * g.monitorRoom + ((Value.ref a :: rest).map fun v => v.category).sum + (13 * 3 + 42) ≤ R.locals) (hlocks : meth.locks = false) :
    ∃ U : State, Steps p.tables e below (S9.setTop g) U ∧ U.status = .running ∧ Ended U below (.threw a) ∧ s.WarmedH U.vm ∧ s.sameButNew ({ U with vm := s.vm } : State) locs cells slots ∧
      (∃ ce : Cell, U.heap[a]? = some ce ∧ ce.cls = cX ∧ ce.vm = .none) ∧ U.heap.size = S9.heap.size ∧ ∀ q, q ≠ a → U.heap[q]? = S9.heap[q]? := by
  have howns : e.platform.frameOwnsMonitors = true := by rw [X.admits.platform]
  have hfin : e.platform.finalization = false := by rw [X.admits.platform]
  have hpl : e.platform.magicAccessors = ({} : Platform).magicAccessors := by rw [X.admits.platform]
  have hin : ∀ w ∈ thW own ic cls ix b1, w.holds args s none s [] = true := fun w hx => hw w hx
  obtain ⟨T, Z0, L, -, Y⟩ := ThrowableC.of_atoms (args := args) howns hfin hpl (fun w hx => hw w (List.mem_append_left _ hx))
  obtain ⟨Z, M, LZ, LM, hnZ⟩ := Init0T.ofS_atoms (args := args) hpl L Y (fun w hx => hw w (List.mem_append_right _ (List.mem_append_left _ hx)))
  obtain ⟨P0, L0, hP0m, hP0s⟩ := PassC.ofS_atoms (args := args) (s := s) hpl (X := cls) (Y := "java/lang/RuntimeException") (index := ix) (bytes := b1) (Jvm.Bundle.fit_spec hfit).1 (by decide) hb0 hb1 hb2 hb5 (fun w hx => hw w (List.mem_append_right _ (List.mem_append_right _ (List.mem_append_left _ hx))))
  obtain ⟨P1, Ps, hlen, L1, hL, hP1m, hlink1, hlink⟩ := Jvm.Bundle.chainS (args := args) hpl hnZ ["java/lang/Exception"] "java/lang/RuntimeException" (by decide +kernel) (by decide +kernel) (fun w hx => hw w (List.mem_append_right _ (List.mem_append_right _ (List.mem_append_right _ (List.mem_append_left _ hx)))))
  have hl0 : P0.sup = P1.m := Option.some.inj (hP0s.symm.trans hP1m)
  have hfound : s.vm.findClass cls = some P0.m.cls := findClass_of_methodNamed hP0m
  cases Option.some.inj (hfX.symm.trans hfound)
  obtain ⟨cI, kI, hcI, hkI, hord, -, -, hn6⟩ := Cond.instantiable_spec (hin (.instantiable cls 6) (by simp [thW]))
  cases Option.some.inj (hcI.symm.trans hfound)
  cases Option.some.inj (hkX.symm.trans hkI)
  have hsel : ∀ {y : MethodName} {mY : MethodId}, s.methodNamed? y = some mY → (y.cls ≠ "java/lang/invoke/MethodHandle" ∧ y.cls ≠ "java/lang/invoke/VarHandle") → (Cond.selects cls y y).holds args s none s [] = true → selectMethod e.platform s.vm P0.m.cls mY = .method mY := by
    intro y mY hy hyc hs
    obtain ⟨c2, r2, m2, s1, s2, s3, s4, -⟩ := Cond.selects_spec hs
    cases Option.some.inj (s1.symm.trans hfound)
    cases Option.some.inj (s2.symm.trans (State.methodFound?_of_named hy hyc))
    cases Option.some.inj (s3.symm.trans hy)
    rw [Launch.admits_selectMethod X.admits]
    exact s4
  have hsel0 := hsel Y.fill0 (by decide) (hin (.selects cls Jvm.Bundle.tFill0 Jvm.Bundle.tFill0) (by simp [thW]))
  have hselF := hsel Y.fill (by decide) (hin (.selects cls Jvm.Bundle.tFill Jvm.Bundle.tFill) (by simp [thW]))
  obtain ⟨u0, cf, kf, fi, fU, aU, cellS, zA1, zA2, zA3, zA4, zA5, zA6, zA7, zA8⟩ := va_Z.refv hzU
  obtain ⟨sen, cf2, kf2, fi2, fS2, aS2, cellS2, zB1, zB2, zB3, zB4, zB5, zB6, zB7, zB8⟩ := va_Z.refv hzS
  have hU9 := Option.some.inj (zA1.symm.trans Y.unassigned)
  have hS9 := Option.some.inj (zB1.symm.trans Y.sentinel)
  simp only [Prod.mk.injEq] at hU9 hS9
  obtain ⟨rfl, rfl, rfl, rfl⟩ := hU9
  obtain ⟨rfl, rfl, rfl, rfl⟩ := hS9
  cases Option.some.inj (zA4.symm.trans L.statics)
  cases Option.some.inj (zB4.symm.trans L.statics)
  cases Option.some.inj (zA5.symm.trans zB5)
  have hneS : T.aS ≠ a := by
    intro h
    rw [h, hcell] at zA5
    cases Option.some.inj zA5
    cases zA6
  have hknownS : cellS.vm ≠ .unknown := fun h => by rw [h] at zA6; cases zA6
  obtain ⟨iM, hffM⟩ := Y.msg
  obtain ⟨ci198, i198, fB, hk198, hg198, ha198, hsB, -, hnB, htB, hffB⟩ := Cond.ownField (t := .object "java/lang/Object") Y.found L.cls (by decide +kernel) (hin (.fieldLink Jvm.Bundle.tN 198 Jvm.Bundle.tN "backtrace" "Ljava/lang/Object;") (by simp [thW])) (hin (.lays Jvm.Bundle.tN Jvm.Bundle.tN "backtrace" "Ljava/lang/Object;") (by simp [thW])) e.platform hpl
  obtain ⟨tyC, dC, hdC, hdnC⟩ := Cond.laysAt hfound hkI Y.cause (hin (.lays cls Jvm.Bundle.tN "cause" "Ljava/lang/Throwable;") (by simp [thW]))
  obtain ⟨tyS, dS, hdS, hdnS⟩ := Cond.laysAt hfound hkI Y.stack (hin (.lays cls Jvm.Bundle.tN "stackTrace" Jvm.Bundle.steD) (by simp [thW]))
  obtain ⟨tyP, dP, hdP, hdnP⟩ := Cond.laysAt hfound hkI Y.supp (hin (.lays cls Jvm.Bundle.tN "suppressedExceptions" Jvm.Bundle.listD) (by simp [thW]))
  obtain ⟨tyM, dM, hdM, hdnM⟩ := Cond.laysAt hfound hkI hffM (hin (.lays cls Jvm.Bundle.tN "detailMessage" "Ljava/lang/String;") (by simp [thW]))
  obtain ⟨tyB, dB, hdB, hdnB⟩ := Cond.laysAt hfound hkI hffB (hin (.lays cls Jvm.Bundle.tN "backtrace" "Ljava/lang/Object;") (by simp [thW]))
  have bC := Cond.laysApart hdB hdC hdnB hdnC (by rw [hnB, Y.causeName]; decide)
  have bS := Cond.laysApart hdB hdS hdnB hdnS (by rw [hnB, Y.stackName]; decide)
  have bP := Cond.laysApart hdB hdP hdnB hdnP (by rw [hnB, Y.suppName]; decide)
  have hskip : SkipFacts T e.platform s (fun u => u) u0 ((preparedCellV T.toThrowableT (freshCell P0.m.cls kX) a u0 sen).withEntry S9.cur) := by
    refine ⟨{ ci198 := ci198, i198 := i198, fBack := fB }, ⟨hk198, hg198, ha198, hsB⟩, ?_, fun _ _ => rfl⟩
    have hdf := fresh_default (c := P0.m.cls) tyB
    rw [htB] at hdf
    simpa [preparedCellV, Cell.setSlot, Cell.withEntry, Array.getElem?_setIfInBounds, bC, bS, bP, bC.symm, bS.symm, bP.symm, defaultValue] using hdf
  obtain ⟨tm, methC, cdC, kC, vm₁, hnC, -, -, -, -, -, -, -, hW₁, st1⟩ := Steps.initColdS (tb := p.tables) (e := e) (below := below) (s := s) (U := S9) X.here hexec X.warmed hpl hown (t := Jvm.Bundle.initS cls) rfl rfl (Jvm.Bundle.fit_spec hfit).2
    (hin (.methodLink own ic (Jvm.Bundle.initS cls)) (by simp [thW])) (hin (.instanceMethod (Jvm.Bundle.initS cls)) (by simp [thW, Jvm.Bundle.passSAtoms])) (bytes := b1) (maxL := 2) (hin (.code (Jvm.Bundle.initS cls) b1 2 none) (by simp [thW, Jvm.Bundle.passSAtoms]))
    (f := g) hg (a := a) (msg := msg) (rest := .ref a :: rest) hstack hd6
  cases Option.some.inj (hnC.symm.trans hP0m)
  have hPs : Ps.length = 1 := hlen
  obtain ⟨vm₂, X₂, st2⟩ := (X.noted hW₁).ctorMessageOffV hexec (g := { g with stack := .ref a :: rest }) hg hsize T L Z LZ M LM (P0 :: P1 :: Ps)
    (fun P hP => by
      rcases List.mem_cons.mp hP with rfl | hP
      · exact L0
      · rcases List.mem_cons.mp hP with rfl | hP
        · exact L1
        · exact hL P hP) ⟨hl0, hlink1, hlink⟩ (u0 := u0) (sen := sen) (self := a) hmsg (cell := freshCell P0.m.cls kX) (cellS := cellS)
    hcell (fun _ => by simp) (by simp) rfl rfl hsel0 hselF zA5 hneS hknownS zA7 zB7
    (Takes.of_laid hkI hord tyC (by rw [Y.causeType]; rfl)) (Takes.of_laid hkI hord tyS (by rw [Y.stackType]; exact fits_refV_array _ u0)) (Takes.of_laid hkI hord tyP (by rw [Y.suppType]; exact fits_refV_object _ sen))
    (Takes.of_laid hkI hord tyM (by rw [Y.msgType]; exact fits_refV_object _ ⟨msg, hmsg⟩)) Y.objLocals hskip htr [] hd6
    (by simp only [List.length_cons, hPs]; omega) (by simp only [List.length_cons, hPs]; exact hRl)
  obtain ⟨hwalk, hrun, hended, hWU, hsame⟩ := X₂.athrowLeaves hexec (g := { g with stack := .ref a :: rest, pc := g.pc + 3 }) hg hlocked hentered hout (a := a) (rest := rest) rfl hd9 hlocks
  have hlt : a < ((S9.setVm vm₁).setVm vm₂).heap.size := (Array.getElem?_eq_some_iff.mp hcell).1
  have hUa := heapAt_setCell_self (s := (S9.setVm vm₁).setVm vm₂) (plainBareV T.toThrowableT (freshCell P0.m.cls kX) a u0 sen msg) hlt
  refine ⟨_, st1 _ (fun acts => ?_), hrun, hended, hWU, hsame.weaken (fun y hy hlt' => ?_) (Nat.le_refl _) (Nat.le_refl _), ⟨_, hUa, rfl, rfl⟩, ?_, ?_⟩
  · rw [doInvoke_state]
    exact st2 _ hwalk
  · rcases List.mem_append.mp hy with h1 | h1
    · exact h1
    · exfalso
      have hb : y.base = a := by
        simp only [List.mem_cons, List.not_mem_nil, or_false] at h1
        rcases h1 with rfl | rfl | rfl | rfl | rfl <;> rfl
      rw [hb] at hlt'
      exact Nat.not_lt.mpr hnew hlt'
  · exact size_setCell _ _ _
  · intro q hq
    show (((S9.setVm vm₁).setVm vm₂).setCell a _).heap[q]? = _
    simp [State.setCell, Array.getElem?_setIfInBounds, Ne.symm hq]
