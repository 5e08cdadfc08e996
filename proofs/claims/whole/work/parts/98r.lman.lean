/-! THE LAW'S OWN man: 0 and the answer in the array, or 1, or 2 -/
def hsL : List (Nat × Nat × Nat × Nat) := [(0, 10, 13, 13), (0, 10, 17, 15)]
def gwL : List Cond := .codeWith yL_man cL_man 5 (some .int) hsL :: gw
def rmL : Room := { frames := 12, cells := 1, slots := 6, locals := 600 }
def oA (D : gD) (o : Nat) : Nat → Prop := fun q => gdom D q ∨ q = o
/-- NoSuchElementException is no IndexOutOfBoundsException -/
def nCs (U : State) : Prop := ∃ cN cI : ClassId, U.vm.findClass "java/util/NoSuchElementException" = some cN ∧ U.vm.findClass "java/lang/IndexOutOfBoundsException" = some cI ∧ U.vm.assignable cN cI = false
theorem nCs.moved {s U : State} (hvm : s.vm.Alike U.vm) (h : nCs s) : nCs U := by
  obtain ⟨cN, cI, ww1, ww2, ww3⟩ := h
  exact ⟨cN, cI, by rw [hvm.findClass]; exact ww1, by rw [hvm.findClass]; exact ww2, by rw [hvm.assignable]; exact ww3⟩
def lmPc (D : gD) (μ : gMem) (o : Nat) (g : Nat → Int64) (x1 x2 : Int32) : Array Value → State → Prop := va_Pc [.ref (D.2.2 9 0), .int x1, .int x2, .ref o] (fun U => lHd D μ o g U.heap ∧ gK D U ∧ zLs (gdom D) U U.heap ∧ nCs U)
def lmQ (D : gD) (μ : gMem) (o : Nat) (E V : Int32) : Array Value → State → Outcome → State → Prop := fun _ st oc t => (∃ g' : Nat → Int64, oc = .returned (some (.int E)) ∧ (E = 0 → g' 0 = V.toInt64) ∧ lHd D μ o g' t.heap) ∧ va_F (oA D o) st t
/-- a contract of the law's man -/
def LMet (l : Launch) (Pc : Array Value → State → Prop) (Qc : Array Value → State → Outcome → State → Prop) (free : Addr → Prop) : Prop :=
  MetFree l yL_man (headSpec gwL rmL) Pc (fun _ _ _ _ _ => True) (fun a st o t => Qc a st o t ∧ ∃ Lx, FrameEnd st o t Lx 1 6 ∧ ∀ q ∈ Lx, free q.base)
theorem LMet.ofW {l : Launch} {Pc : Array Value → State → Prop} {Qc : Array Value → State → Outcome → State → Prop} {free : Addr → Prop}
    (body : ∀ p e s m args below meth c s₁, BodyLoose p l yL_man (headSpec gwL rmL) cL_man 5 (some .int) e s m args below meth c s₁ → c.maxLocals = 5 → Pc args s → c.exceptionTable.toList.map (fun h => (h.startPc, h.endPc, h.handlerPc, h.catchType)) = hsL →
      W p l e rmL s m args below meth c s.heap [] 0 0 (MQ below Qc args s 1 6 free) (entryFrame m args 5)) : LMet l Pc Qc free := by
  refine MetFree.of_bodyS (code := cL_man) (maxLocals := 5) (ret := some .int) (by decide) ?_ ?_
  · intro args s m h hn
    obtain ⟨m', meth, c, hh0, hh1, hh2, hh3, hh4, -, hh5, hh6, -⟩ := Cond.codeWith_spec (atoms_spec (ws := gwL) h _ List.mem_cons_self)
    cases hn.symm.trans hh0
    exact ⟨meth, c, hh1, hh2, hh3, hh4, hh5, hh6⟩
  · intro p e s m args below meth c s₁ B hml hP _
    have hhz : s₁.heap = s.heap := by rw [B.state]; rfl
    obtain ⟨m', meth', c', hh0, hh1, hh2, -, -, hhs, -, -, -⟩ := Cond.codeWith_spec (atoms_spec (ws := gwL) B.pre _ List.mem_cons_self)
    cases B.named.symm.trans hh0
    cases B.method.symm.trans hh1
    cases (Stand.of_body B).code.symm.trans hh2
    obtain ⟨t, aa1, o, bb1, bb2, bb3⟩ := body p e s m args below meth c s₁ B hml hP hhs s₁ hhz (Stand.of_body B)
    exact ⟨t, o, aa1, bb1, bb2, ⟨bb3.1, bb3.2⟩⟩
section LMN
variable {l : Launch} {D : gD} {μ : gMem} {o t : Nat} {σ : sV} {x1 x2 : Int32} {g : Nat → Int64}
theorem oA_no (ho : ¬ gdom D o) : ∀ (k : Nat) (q : Nat × va_E), ([(o, .inl (D.2.1 4, 1, .inr (.inl g)))] : va_W)[k]? = some q → ¬ gdom D q.1 := by
  intro k9 q9 hq9
  have hz : k9 < 1 := (List.getElem?_eq_some_iff.mp hq9).1
  rw [show k9 = 0 by omega] at hq9
  cases hq9
  exact ho
theorem ob9 (D : gD) (μ : gMem) : ∃ q : Nat, (gwl D μ)[q]? = some (D.2.2 9 0, .inr (9, (List.range (gsh 9).2.2).map (gsv D μ.2.2 (μ.1 9 0) (μ.2.1 9 0) 9 0))) := by
  obtain ⟨q, hq⟩ := gpos (k := 9) (i := 0) (by decide)
  exact ⟨q, gat (D := D) (μ := μ) hq⟩
theorem lmblind : FrameBlind (manPc D μ x1 x2) := fun a U gg mk h => ⟨h.1, h.2.1, gK.same (s := U) (U := U.calling gg mk a) rfl rfl h.2.2.1, h.2.2.2⟩
end LMN
