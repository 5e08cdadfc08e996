/-! a call that throws; its catch -/
theorem fh_no {Q : Handler → Pre} {E : CtlPost} {e : Env} {d : Bool} {acts : List Action} {s : State} {f : JFrame} {a : Addr} {x : ExceptionTableEntry} {tl : List ExceptionTableEntry} {c : ClassId} {cell : Cell} (hx : covers x f.pc = true) (h0 : x.catchType ≠ 0)
    (hl : s.vm.ClassLinks e.platform f.method.cls x.catchType c) (hcell : s.heap[a]? = some cell) (hobj : ∀ k, cell.vm ≠ .statics k)
    (hk : ∃ k, s.vm.classes[cell.cls]? = some k) (hc : ∃ k, s.vm.classes[c]? = some k) (hno : s.vm.assignable cell.cls c = false) :
    wp (findHandler.go f a (x :: tl)) Q E e d acts s ↔ wp (findHandler.go f a tl) Q E e d acts (s.setVm (s.vm.noted f.method.cls x.catchType (.cls c))) := by
  simp only [covers] at hx
  obtain ⟨ha, ht⟩ := (resolveClass_links e.toSetting hl).op (op := VmOp.resolveClass f.method.cls x.catchType) rfl
  have hal : s.vm.Alike (s.vm.noted f.method.cls x.catchType (.cls c)) := (Vm.Alike.refl s.vm).noted _ _ _
  obtain ⟨kA1, hkA1⟩ := hk
  obtain ⟨kB2, hkB2⟩ := hc
  obtain ⟨kA1', hkA1', -⟩ := hal.2.2 _ _ hkA1
  obtain ⟨kB2', hkB2', -⟩ := hal.2.2 _ _ hkB2
  have hno' : (s.vm.noted f.method.cls x.catchType (.cls c)).assignable cell.cls c = false := by rw [hal.assignable]; exact hno
  simp [findHandler.go, hx, h0, ha, ht, hcell, hobj, hkA1', hkB2', hno', VmOp.dirties, VmOp.acts]
theorem caught2 {p : Program} {l : Launch} {e : Env} {R : Room} {s : State} {m₀ : MethodId} {args : Array Value} {below : List Frame} {meth : Method} {c : Code} {S9 : State} {locs : List Loc} {cells slots : Nat} (X : Stand p l e R s m₀ args below meth c S9 locs cells slots) (a : Addr) {g : JFrame} (hg : g.method = m₀) {own n1 n2 : String} (hown : s.vm.findClass own = some m₀.cls)
    (x y : ExceptionTableEntry) (tl : List ExceptionTableEntry) (hsplit : c.exceptionTable.toList = x :: y :: tl) (hx : covers x g.pc = true) (hx0 : x.catchType ≠ 0) (hy : covers y g.pc = true) (hy0 : y.catchType ≠ 0)
    (hlx : (Cond.classLink own x.catchType n1).before args s = true) (hly : (Cond.classLink own y.catchType n2).before args s = true) {c1 c2 : ClassId} {cell : Cell} (hc1 : s.vm.findClass n1 = some c1) (hc2 : s.vm.findClass n2 = some c2) (hcell : S9.heap[a]? = some cell) (hobj : cell.vm.isStatics = false) (hno : s.vm.assignable cell.cls c1 = false) (hfit : s.vm.assignable cell.cls c2 = true) :
    ∃ vm', Stand p l e R s m₀ args below meth c (S9.setVm vm') locs cells slots ∧
      ∀ target, Steps p.tables e below ((S9.setVm vm').setTop { g with pc := y.handlerPc, stack := [.ref a] }) target → Steps p.tables e below ((S9.setTop g).pushFrame (.throwing a)) target := by
  have hpl : e.platform.magicAccessors = ({} : Platform).magicAccessors := by rw [X.admits.platform]
  obtain ⟨cA, hcA, hclA⟩ := Cond.classLink_spec hown hlx e.platform hpl
  cases hc1.symm.trans hcA
  obtain ⟨cB, hcB, hclB⟩ := Cond.classLink_spec hown hly e.platform hpl
  cases hc2.symm.trans hcB
  obtain ⟨dkA, _, _, ktA, hdA, _, _, _, _, hktA, _, hopA⟩ := hclA.here
  obtain ⟨dkB, _, _, ktB, hdB, _, _, _, _, hktB, _, hopB⟩ := hclB.here
  have hWA : s.WarmedH (S9.vm.noted m₀.cls x.catchType (.cls c1)) := X.warmed.noted hdA hopA (State.rightAt_cls hclA)
  have hWB : s.WarmedH ((S9.vm.noted m₀.cls x.catchType (.cls c1)).noted m₀.cls y.catchType (.cls c2)) := hWA.noted hdB hopB (State.rightAt_cls hclB)
  have hal := X.warmed.alike
  obtain ⟨ktA', hktA', -⟩ := hal.2.2 _ _ hktA
  obtain ⟨ktB', hktB', -⟩ := hal.2.2 _ _ hktB
  obtain ⟨ktB2, hktB2, -⟩ := hWA.alike.2.2 _ _ hktB
  have hno' : S9.vm.assignable cell.cls c1 = false := by rw [hal.assignable]; exact hno
  have hfit' : S9.vm.assignable cell.cls c2 = true := by rw [hal.assignable]; exact hfit
  have hfit2 : (S9.vm.noted m₀.cls x.catchType (.cls c1)).assignable cell.cls c2 = true := by rw [hWA.alike.assignable]; exact hfit
  refine ⟨_, X.noted hWB, fun target hrest => ?_⟩
  subst hg
  refine Steps.caughtTo X.here (vm' := (S9.vm.noted g.method.cls x.catchType (.cls c1)).noted g.method.cls y.catchType (.cls c2)) (pc := y.handlerPc) ?_ hrest
  intro Q E d acts
  rw [W.findHandler_eq (s := (S9.setTop g).pushFrame (.throwing a)) X.method' X.code, hsplit, fh_no (s := (S9.setTop g).pushFrame (.throwing a)) hx hx0 (X.warmed.classLinks hclA) hcell (VmData.ne_statics_of hobj) (Vm.classAt_of_assignable hfit' ⟨ktB', hktB'⟩) ⟨ktA', hktA'⟩ hno']
  exact W.findHandler_go_link (s := ((S9.setTop g).pushFrame (.throwing a)).setVm (S9.vm.noted g.method.cls x.catchType (.cls c1))) hy hy0 (hWA.classLinks hclB) hcell (VmData.ne_statics_of hobj) (Vm.classAt_of_assignable hfit2 ⟨ktB2, hktB2⟩) ⟨ktB2, hktB2⟩ hfit2
section CT
variable {p : Program} {l : Launch} {e : Env} {R : Room} {s : State} {m : MethodId} {args : Array Value} {below : List Frame} {meth : Method} {c : Code} {H : Heap} {locs : List Loc} {cells slots : Nat}
variable {y : MethodName} {bytes cc : ByteArray} {maxL nL mc ms n index : Nat} {ret : Option FieldType} {ws : List Cond} {rm : Room} {Pc : Array Value → State → Prop} {Qx : Array Value → State → Addr → State → Prop} {free : Addr → Prop} {Ts : List Cond} {own C : String} {b : Addr} {As rest : List Value} {g : JFrame}
theorem runT (S : CallFix p m c cc nL s args Ts own) (hM : MetT l y ws rm Pc Qx mc ms free) (cw : CallW R s args own C index y bytes maxL ret ws rm mc ms n) (hp : PreV s H C b Pc As)
    (hg : g.method = m) (hn : As.length = n) (hsize : g.locals.size = nL) (hstack : g.stack = As.reverse ++ .ref b :: rest) (hW : 2 * g.monitorRoom + (rest.map fun v => v.category).sum ≤ 8) (hdg : decode cc g.pc = .ok (.invokevirtual index, 3)) (hf : cells + mc ≤ R.cells ∧ slots + ms ≤ R.slots) :
    ∀ T : State, T.heap = H → Stand p l e R s m args below meth c T locs cells slots → ∃ (v : Addr) (st₀ t T' : State) (Lx : List Loc), st₀.heap = H ∧ Stand p l e R s m args below meth c T' (locs ++ Lx) (cells + mc) (slots + ms) ∧ (∀ q ∈ Lx, free q.base) ∧ T'.heap = t.heap ∧ T'.vm = t.vm ∧ Qx (Value.ref b :: As).toArray st₀ v t ∧
      Steps p.tables e below (T.setTop g) ((T'.setTop { g with stack := rest }).pushFrame (.throwing v)) := by
  obtain ⟨⟨hrc, hrs, hfr, hlo, hws, hcw, hcode, hini, hy, hlen, hl⟩, hin, hse⟩ := cw
  obtain ⟨hx, hb, hml, ho, -⟩ := S
  obtain ⟨hbl, ⟨cellB, hcB, hoB, hclB⟩, hPc⟩ := hp
  have hK : Jvm.Free.BackT l R p e below s args y 3 8 (PreOf R mc ms Pc) (fun A av v B => ∃ (g' : JFrame) (mk : MethodId) (t : State) (Lx : List Loc), B.U.heap = t.heap ∧ B.U.vm = t.vm ∧ Qx av (A.U.calling g' mk av) v t ∧ B.locs = A.locs ++ Lx ∧ (∀ q ∈ Lx, free q.base) ∧ B.cells = A.cells + mc ∧ B.slots = A.slots + ms) := by
    refine Jvm.Free.BackT.of_free (S := headSpec ws rm) (P := Pc) (K := fun _ _ _ _ _ => True) (Q := fun a st o t => (∃ v, o = .threw v ∧ Qx a st v t) ∧ ∃ Lx, Jvm.Free.FrameEndT st o t Lx mc ms ∧ ∀ q ∈ Lx, free q.base) (bytes := bytes) (maxL := maxL) (ret := ret)
      (E := fun a st o t Lx k9 n9 => k9 = mc ∧ n9 = ms ∧ ∀ q ∈ Lx, free q.base) hM hfr hlo ?_ ?_ (fun _ _ _ _ _ _ _ _ _ => trivial) ?_ ?_
    · intro m' meth' c' A av X hpp
      exact ⟨atoms_intro fun w hw => hws w hw _ _ X.warmed, hws _ hcw _ _ X.warmed, word_at X.warmed (Or.inl (by first | rfl | simp [Cond.onTables, Cond.keeps, Cond.steady])) hini, by rw [show (headSpec ws rm).room.cells = mc from hrc]; exact hpp.1, by rw [show (headSpec ws rm).room.slots = ms from hrs]; exact hpp.2.1⟩
    · intro m' meth' c' A av g' mk X hpp
      exact hbl _ _ _ _ hpp.2.2
    · intro av st o t hq
      obtain ⟨hq1, Lx, hF, hL⟩ := hq
      exact ⟨Lx, mc, ms, hF, rfl, rfl, hL⟩
    · intro m' meth' c' A av g' mk v t Lx k9 n9 X hpp hq hF hE
      obtain ⟨eE1, eE2, hL⟩ := hE
      subst eE1
      subst eE2
      obtain ⟨⟨v', hv', hq'⟩, -⟩ := hq
      cases hv'
      exact ⟨g', mk, t, Lx, rfl, rfl, hq', rfl, hL, rfl, rfl⟩
  intro T hT X
  obtain ⟨mk, methM, hnamed, hmethM, hstM, habM⟩ := Cond.instanceMethod_spec hin
  obtain ⟨methM', cM, hmethM', -, -, -, -, -, -, hsigM⟩ := Cond.code_spec hnamed hcode
  cases hmethM.symm.trans hmethM'
  obtain ⟨cS, rS, mS, sA, sB, sC, sD, kP, hkP, hkPi⟩ := Cond.selects_spec hse
  cases hclB.symm.trans sA
  cases (State.methodFound?_of_named hnamed hy).symm.trans sB
  cases hnamed.symm.trans sC
  have hselP : selectMethod e.platform s.vm cellB.cls mk = .method mk := by rw [Launch.admits_selectMethod X.admits]; exact sD
  obtain ⟨vm₁, X₁, hstep₁⟩ := X.invokevirtual hx ho hl hnamed hmethM hstM hkP hkPi hy (a := b) (cell := cellB) (by rw [hT]; exact hcB)
    (fun z h => by rw [h] at hoB; cases hoB) hselP hmethM habM hkP hkPi (g := g) hg (argsL := As) (rest := rest) (hn.trans (hlen _ hsigM)) hstack (by rw [hb]; exact hdg)
  obtain ⟨v, ⟨U', lx2, cx2, sx2⟩, X', hpost, hsteps⟩ := hK m meth c ⟨T.setVm vm₁, locs, cells, slots⟩ { g with stack := rest } (.invokevirtual index) mk (Value.ref b :: As).toArray X₁ hg (hsize.trans hml.symm) (by rw [hb]; exact hdg) hW (X₁.named hnamed) ⟨hf.1, hf.2, hPc (T.setVm vm₁) hT X₁.warmed⟩
  obtain ⟨g', mk', t, Lx, pA, pB, hq, pC, hL, pD, pE⟩ := hpost
  dsimp only [Pt.U, Pt.locs, Pt.cells, Pt.slots] at X' pA pB pC pD pE hsteps hq
  subst pC
  subst pD
  subst pE
  exact ⟨v, (T.setVm vm₁).calling g' mk' (Value.ref b :: As).toArray, t, U', Lx, hT, X', hL, pA, pB, hq, hstep₁ _ fun acts => by rw [doInvoke_state]; exact hsteps⟩
end CT
