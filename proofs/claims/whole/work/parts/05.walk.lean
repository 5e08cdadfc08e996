/-! WALKS OVER THE MEMORY: 'G .. pc lv st μ': from every heap that holds μ, at pc with these locals and this stack, the method comes to its end with post -/
def gnest : List Cond := [.methodLinkNest "WristGoal$Formula" 89 ⟨"WristGoal", "isWithin", "(III)Z"⟩ "WristGoal", .methodLinkNest "WristGoal$Laws" 50 ⟨"WristGoal", "isWithin", "(III)Z"⟩ "WristGoal", .methodLinkNest "WristGoal$Reader" 164 ⟨"WristGoal", "isWithin", "(III)Z"⟩ "WristGoal", .methodLinkNest "WristGoal$Reader" 184 ⟨"WristGoal", "placeOf", "(I[II)I"⟩ "WristGoal", .methodLinkNest "WristGoal$Tokens" 77 ⟨"WristGoal", "placeOf", "(I[II)I"⟩ "WristGoal"]
/-- what the heap holds beside the memory, outside of it (the String constants) -/
def gSb : List Int32 := [109, 97, 110, 32, 100, 101, 101, 100, 32, 112, 108, 97, 110, 32, 98, 101, 116, 32, 112, 97, 121, 32, 114, 97, 105, 110, 32, 115, 101, 101, 100, 32, 108, 97, 119, 32, 112, 117, 115, 104, 32, 104, 97, 98, 105, 116, 32, 102, 97, 105, 114, 32, 111, 114, 32, 97, 110, 100, 32, 110, 111, 116, 32, 98, 97, 115, 101, 32, 103, 111, 97, 108, 32, 115, 116, 101, 112, 115, 32, 114, 111, 119, 32, 108, 97, 99, 107, 115, 32, 98, 101, 104, 105, 110, 100, 32, 100, 97, 121, 32]
def gTx : String := "man deed plan bet pay rain seed law push habit fair or and not base goal steps row lacks behind day "
def sXs (A : Nat → Prop) (aK aV : Nat) (U : State) (H : Heap) : Prop := vk_S 1 [100] [gSb] (fun _ => aK) (fun _ => aV) A U H ∧ va_Z "java/lang/String" "COMPACT_STRINGS" "Z" (.int 1) A U H ∧ va_Zq "jdk/internal/util/Preconditions" "SIOOBE_FORMATTER" "Ljava/util/function/BiFunction;" A U H
def tXs (A : Nat → Prop) (U : State) (H : Heap) : Prop := va_Zq "java/lang/Throwable" "SUPPRESSED_SENTINEL" "Ljava/util/List;" A U H ∧ va_Zq "java/lang/Throwable" "UNASSIGNED_STACK" "[Ljava/lang/StackTraceElement;" A U H
def rXs (aK aP aW : Nat) (U : State) : Prop := vk_R "WristGoal$Tokens" 19 gTx aK U ∧ vk_R "WristGoalModel" 188 gTx aK U ∧ vk_R "WristGoal" 127 "no such person" aP U ∧ vk_R "WristGoal" 164 "no such what" aW U
theorem sXs.moved {A : Nat → Prop} {aK aV : Nat} {u U : State} {H : Heap} (hvm : u.vm.Alike U.vm) (h : sXs A aK aV u H) : sXs A aK aV U H := ⟨h.1.moved hvm, h.2.1.moved hvm, h.2.2.moved hvm⟩
theorem sXs.kept {A : Nat → Prop} {aK aV : Nat} {U : State} {H H1 : Heap} (h : sXs A aK aV U H) (hq : ∀ a : Nat, a < H.size → ¬ A a → H1[a]? = H[a]?) : sXs A aK aV U H1 := ⟨h.1.kept hq, h.2.1.kept hq, h.2.2.kept hq⟩
theorem sXs.narrow {A B : Nat → Prop} {aK aV : Nat} {U : State} {H : Heap} (h : sXs A aK aV U H) (hAB : ∀ q, B q → A q) : sXs B aK aV U H := ⟨h.1.narrow hAB, h.2.1.narrow hAB, h.2.2.narrow hAB⟩
theorem tXs.moved {A : Nat → Prop} {u U : State} {H : Heap} (hvm : u.vm.Alike U.vm) (h : tXs A u H) : tXs A U H := ⟨h.1.moved hvm, h.2.moved hvm⟩
theorem tXs.kept {A : Nat → Prop} {U : State} {H H1 : Heap} (h : tXs A U H) (hq : ∀ a : Nat, a < H.size → ¬ A a → H1[a]? = H[a]?) : tXs A U H1 := ⟨h.1.kept hq, h.2.kept hq⟩
theorem tXs.narrow {A B : Nat → Prop} {U : State} {H : Heap} (h : tXs A U H) (hAB : ∀ q, B q → A q) : tXs B U H := ⟨h.1.narrow hAB, h.2.narrow hAB⟩
theorem rXs.warm {aK aP aW : Nat} {s U : State} (hW : s.WarmedH U.vm) (h : rXs aK aP aW s) : rXs aK aP aW U := ⟨h.1.warm hW, h.2.1.warm hW, h.2.2.1.warm hW, h.2.2.2.warm hW⟩
theorem rXs.same {aK aP aW : Nat} {s U : State} (hv : s.vm = U.vm) (h : rXs aK aP aW s) : rXs aK aP aW U := ⟨h.1.same hv.symm, h.2.1.same hv.symm, h.2.2.1.same hv.symm, h.2.2.2.same hv.symm⟩
def gXs (D : gD) (U : State) : Prop := sXs (gdom D) (D.2.2 2000 0) (D.2.2 2001 0) U U.heap ∧ tXs (gdom D) U U.heap ∧ rXs (D.2.2 2000 0) (D.2.2 2000 1) (D.2.2 2000 2) U
theorem gXs.kept {D : gD} {s U : State} {H : Heap} {locs : List Loc} (hvm : s.WarmedH U.vm) (hU : U.heap = H) (hS : va_S (gdom D) s.heap H locs) (h : gXs D s) : gXs D U := by
  refine ⟨?_, ?_, h.2.2.warm hvm⟩
  · rw [hU]
    exact (h.1.moved hvm.alike).kept hS.2.1
  · rw [hU]
    exact (h.2.1.moved hvm.alike).kept hS.2.1
theorem gXs.same {D : gD} {s U : State} (hvm : s.vm = U.vm) (hU : s.heap = U.heap) (h : gXs D s) : gXs D U := by
  have hal : s.vm.Alike U.vm := by rw [hvm]; exact Vm.Alike.refl U.vm
  refine ⟨?_, ?_, h.2.2.same hvm⟩
  · rw [← hU]
    exact h.1.moved hal
  · rw [← hU]
    exact h.2.1.moved hal
def gK (D : gD) (U : State) : Prop := va_K D.1 vwCl (gtys D) U ∧ (∀ w ∈ gnest, va_Nw w U) ∧ gXs D U
theorem gK.warm {D : gD} {s U : State} {H : Heap} {locs : List Loc} (hU : U.heap = H) (hS : va_S (gdom D) s.heap H locs) (hW : s.WarmedH U.vm) (h : gK D s) : gK D U := by
  refine ⟨va_K.moved hW.alike h.1, fun w hw => ?_, h.2.2.kept hW hU hS⟩
  have h2 := h.2.1 w hw
  simp only [gnest, List.mem_cons, List.not_mem_nil, or_false] at hw
  rcases hw with rfl | rfl | rfl | rfl | rfl <;> exact va_Nw.warmM hW h2
theorem gK.same {D : gD} {s U : State} (hW : s.vm = U.vm) (hU : s.heap = U.heap) (h : gK D s) : gK D U := by
  refine ⟨va_K.moved (by rw [hW]; exact Vm.Alike.refl U.vm) h.1, fun w hw => ?_, h.2.2.same hW hU⟩
  have h2 := h.2.1 w hw
  simp only [gnest, List.mem_cons, List.not_mem_nil, or_false] at hw
  rcases hw with rfl | rfl | rfl | rfl | rfl <;> exact va_Nw.same rfl hW h2
abbrev gP : Type := Option Value → gMem → Prop
abbrev gC : Type := Program × Env × State × MethodId × Array Value × List Frame × Method × Code
def gQ (D : gD) (post : gP) : Array Value → State → Outcome → State → Prop := fun _ st oc t => (∃ (r : Option Value) (μ' : gMem), oc = .returned r ∧ post r μ' ∧ ghold D μ' t.heap ∧ gK D t) ∧ va_F (gdom D) st t
def grm (d : Nat) : Room := { frames := d + 4, cells := 0, slots := 0, locals := 64 * d + 256 }
/-- a method's contract: from memory μ with the arguments av it returns r with memory μ', post r μ' -/
def Ctr (l : Launch) (D : gD) (d : Nat) (y : MethodName) (cc : ByteArray) (nL : Nat) (ret : Option FieldType) (av : List Value) (μ : gMem) (post : gP) : Prop :=
  Met l y (gws y cc nL ret) (grm d) (va_Pc av (fun U => ghold D μ U.heap ∧ gK D U)) (gQ D post) 0 0 (gdom D)
def gOk (D : gD) (own : String) (cc : ByteArray) (nL : Nat) (ret : Option FieldType) (Γ : gC) : Prop :=
  Γ.1.tables.exec = Jvm.exec ∧ Γ.2.2.2.2.2.2.2.code = cc ∧ Γ.2.2.2.2.2.2.2.maxLocals = nL ∧ Γ.2.2.1.vm.findClass own = some Γ.2.2.2.1.cls ∧ (∀ w ∈ gw, w.before Γ.2.2.2.2.1 Γ.2.2.1 = true) ∧ gK D Γ.2.2.1 ∧ Γ.2.2.2.2.2.2.1.sig.returnType = ret ∧ Γ.2.2.2.2.2.2.1.locks = false
def G (l : Launch) (D : gD) (own : String) (cc : ByteArray) (nL : Nat) (ret : Option FieldType) (d : Nat) (post : gP) (Γ : gC) (pc : Nat) (lv : List (Nat × Value)) (st : List Value) (μ : gMem) : Prop :=
  ∀ (H : Heap) (locs : List Loc) (ls : Array Slot), gOk D own cc nL ret Γ → lv_has ls nL lv → ghold D μ H → va_S (gdom D) Γ.2.2.1.heap H locs →
    W Γ.1 l Γ.2.1 (grm d) Γ.2.2.1 Γ.2.2.2.1 Γ.2.2.2.2.1 Γ.2.2.2.2.2.1 Γ.2.2.2.2.2.2.1 Γ.2.2.2.2.2.2.2 H locs 0 0 (MQ Γ.2.2.2.2.2.1 (gQ D post) Γ.2.2.2.2.1 Γ.2.2.1 0 0 (gdom D)) (F0 Γ.2.2.2.1 pc ls st)
theorem Ctr_of {l : Launch} {D : gD} {d : Nat} {y : MethodName} {own : String} {cc : ByteArray} {nL : Nat} {ret : Option FieldType} {av : List Value} {μ : gMem} {post : gP} (hown : y.cls = own) (hy : plainName y.cls = true) (hlen : (lg_sl av).length ≤ nL)
    (body : ∀ Γ : gC, G l D own cc nL ret d post Γ 0 (lv_args 0 av) [] μ) : Ctr l D d y cc nL ret av μ post := by
  refine Met.ofW (cc := cc) (maxL := nL) (ret := ret) hy rfl ?_
  intro p e s m args below meth c s₁ B hml hv
  obtain ⟨rfl, hh, hk⟩ := hv
  have hts := atoms_spec (ws := gws y cc nL ret) B.pre
  have hn : s.vm.findClass own = some m.cls := by rw [← hown]; exact findClass_of_methodNamed B.named
  rw [lg_entry_eq]
  exact body (p, e, s, m, av.toArray, below, meth, c) s.heap [] _ ⟨B.exec, B.bytes, hml, hn, fun w hw => hts w (List.mem_cons_of_mem _ hw), hk, B.returns, B.notSynchronized⟩ (lv_entry av hlen) hh va_S.rf
section GR
variable {l : Launch} {D : gD} {own : String} {cc : ByteArray} {nL d : Nat} {ret : Option FieldType} {post : gP} {Γ : gC} {pc : Nat} {lv : List (Nat × Value)} {st : List Value} {μ : gMem}
theorem g_lv {lv' : List (Nat × Value)} (h : lv = lv') (kk : G l D own cc nL ret d post Γ pc lv' st μ) : G l D own cc nL ret d post Γ pc lv st μ := h ▸ kk
theorem g_sub {lv' : List (Nat × Value)} (ks : List Nat) (h : lv_pick lv ks = lv') (kk : G l D own cc nL ret d post Γ pc lv' st μ) : G l D own cc nL ret d post Γ pc lv st μ := fun H locs ls ok hl hh hS => kk H locs ls ok (lv_sub hl ks h) hh hS
theorem g_mem {μ' : gMem} (h : μ = μ') (kk : G l D own cc nL ret d post Γ pc lv st μ') : G l D own cc nL ret d post Γ pc lv st μ := h ▸ kk
theorem g_pc {pc' : Nat} (h : pc = pc') (kk : G l D own cc nL ret d post Γ pc' lv st μ) : G l D own cc nL ret d post Γ pc lv st μ := h ▸ kk
theorem lv_look {ls : Array Slot} {lv : List (Nat × Value)} (hl : lv_has ls nL lv) {i : Nat} {v : Value} (h : lv.lookup i = some v) : ls[i]? = some (.val v) := by
  refine hl.2.2 (i, v) ?_
  clear hl
  induction lv with
  | nil => cases h
  | cons q l ih =>
    obtain ⟨a, b⟩ := q
    rw [List.lookup_cons] at h
    by_cases hq : i = a
    · subst hq
      simp at h
      subst h
      exact List.mem_cons_self
    · have : (i == a) = false := by simpa using hq
      rw [this] at h
      exact List.mem_cons_of_mem _ (ih h)
-- constants
theorem g_iconst {n : Int} (v : Int32) (hdg : decode cc pc = .ok (.iconst n, 1)) (hv : Int32.ofInt n = v) (kk : G l D own cc nL ret d post Γ (pc + 1) lv (.int v :: st) μ) : G l D own cc nL ret d post Γ pc lv st μ := fun H locs ls ok hl hh hS => lv_iconst ok.1 ok.2.1 hdg hv (kk H locs ls ok hl hh hS)
theorem g_bipush {n : Int} (v : Int32) (hdg : decode cc pc = .ok (.bipush n, 2)) (hv : (Int8.ofInt n).toInt32 = v) (kk : G l D own cc nL ret d post Γ (pc + 2) lv (.int v :: st) μ) : G l D own cc nL ret d post Γ pc lv st μ := fun H locs ls ok hl hh hS => lv_bipush ok.1 ok.2.1 hdg hv (kk H locs ls ok hl hh hS)
theorem g_sipush {n : Int} (v : Int32) (hdg : decode cc pc = .ok (.sipush n, 3)) (hv : (Int16.ofInt n).toInt32 = v) (kk : G l D own cc nL ret d post Γ (pc + 3) lv (.int v :: st) μ) : G l D own cc nL ret d post Γ pc lv st μ := fun H locs ls ok hl hh hS => lv_sipush ok.1 ok.2.1 hdg hv (kk H locs ls ok hl hh hS)
theorem g_lconst {n : Fin 2} (v : Int64) (hdg : decode cc pc = .ok (.lconst n, 1)) (hv : Int64.ofNat (n : Nat) = v) (kk : G l D own cc nL ret d post Γ (pc + 1) lv (.long v :: st) μ) : G l D own cc nL ret d post Γ pc lv st μ := fun H locs ls ok hl hh hS => lv_lconst ok.1 ok.2.1 hdg hv (kk H locs ls ok hl hh hS)
theorem g_ldc {index : Nat} {v : Int32} (hw : Cond.constant own index v ∈ gw) (hdg : decode cc pc = .ok (.ldc index, 2)) (kk : G l D own cc nL ret d post Γ (pc + 2) lv (.int v :: st) μ) : G l D own cc nL ret d post Γ pc lv st μ := fun H locs ls ok hl hh hS => lv_ldc ok.1 ok.2.1 ok.2.2.2.1 (ok.2.2.2.2.1 _ hw) hdg (kk H locs ls ok hl hh hS)
theorem g_ldcw {index : Nat} {v : Int32} (hw : Cond.constant own index v ∈ gw) (hdg : decode cc pc = .ok (.ldc_w index, 3)) (kk : G l D own cc nL ret d post Γ (pc + 3) lv (.int v :: st) μ) : G l D own cc nL ret d post Γ pc lv st μ := fun H locs ls ok hl hh hS => lv_ldcw ok.1 ok.2.1 ok.2.2.2.1 (ok.2.2.2.2.1 _ hw) hdg (kk H locs ls ok hl hh hS)
theorem g_ldc2 {index : Nat} {v : Int64} (hw : Cond.constantLong own index v ∈ gw) (hdg : decode cc pc = .ok (.ldc2_w index, 3)) (kk : G l D own cc nL ret d post Γ (pc + 3) lv (.long v :: st) μ) : G l D own cc nL ret d post Γ pc lv st μ := fun H locs ls ok hl hh hS => lv_ldc2 ok.1 ok.2.1 ok.2.2.2.1 (ok.2.2.2.2.1 _ hw) hdg (kk H locs ls ok hl hh hS)
-- locals
theorem g_iload_n {k : Fin 4} {x : Int32} (hdg : decode cc pc = .ok (.iload_n k, 1)) (h : lv.lookup (k : Nat) = some (.int x)) (kk : G l D own cc nL ret d post Γ (pc + 1) lv (.int x :: st) μ) : G l D own cc nL ret d post Γ pc lv st μ := fun H locs ls ok hl hh hS => lv_iload_n ok.1 ok.2.1 hdg rfl (lv_look hl h) (kk H locs ls ok hl hh hS)
theorem g_iload {i : Nat} {x : Int32} (hdg : decode cc pc = .ok (.iload i, 2)) (h : lv.lookup i = some (.int x)) (kk : G l D own cc nL ret d post Γ (pc + 2) lv (.int x :: st) μ) : G l D own cc nL ret d post Γ pc lv st μ := fun H locs ls ok hl hh hS => lv_iload ok.1 ok.2.1 hdg (lv_look hl h) (kk H locs ls ok hl hh hS)
theorem g_lload_n {k : Fin 4} {x : Int64} (hdg : decode cc pc = .ok (.lload_n k, 1)) (h : lv.lookup (k : Nat) = some (.long x)) (kk : G l D own cc nL ret d post Γ (pc + 1) lv (.long x :: st) μ) : G l D own cc nL ret d post Γ pc lv st μ := fun H locs ls ok hl hh hS => lv_lload_n ok.1 ok.2.1 hdg rfl (lv_look hl h) (kk H locs ls ok hl hh hS)
theorem g_lload {i : Nat} {x : Int64} (hdg : decode cc pc = .ok (.lload i, 2)) (h : lv.lookup i = some (.long x)) (kk : G l D own cc nL ret d post Γ (pc + 2) lv (.long x :: st) μ) : G l D own cc nL ret d post Γ pc lv st μ := fun H locs ls ok hl hh hS => lv_lload ok.1 ok.2.1 hdg (lv_look hl h) (kk H locs ls ok hl hh hS)
theorem g_aload_n {k : Fin 4} {x : Nat} (hdg : decode cc pc = .ok (.aload_n k, 1)) (h : lv.lookup (k : Nat) = some (.ref x)) (kk : G l D own cc nL ret d post Γ (pc + 1) lv (.ref x :: st) μ) : G l D own cc nL ret d post Γ pc lv st μ := fun H locs ls ok hl hh hS => lv_aload_n ok.1 ok.2.1 hdg rfl (lv_look hl h) (kk H locs ls ok hl hh hS)
theorem g_aload {i : Nat} {x : Nat} (hdg : decode cc pc = .ok (.aload i, 2)) (h : lv.lookup i = some (.ref x)) (kk : G l D own cc nL ret d post Γ (pc + 2) lv (.ref x :: st) μ) : G l D own cc nL ret d post Γ pc lv st μ := fun H locs ls ok hl hh hS => lv_aload ok.1 ok.2.1 hdg (lv_look hl h) (kk H locs ls ok hl hh hS)
def glv1 (i : Nat) (v : Value) (lv : List (Nat × Value)) : List (Nat × Value) := (i, v) :: lv.filter (fun q => !(q.1 == i) && !(q.1 + 1 == i && q.2.category == 2))
def glv2 (i : Nat) (v : Value) (lv : List (Nat × Value)) : List (Nat × Value) := (i, v) :: lv.filter (fun q => !(q.1 == i) && (!(q.1 == i + 1) && !(q.1 + 1 == i && q.2.category == 2)))
theorem g_istore_n {k : Fin 4} {x : Int32} (hdg : decode cc pc = .ok (.istore_n k, 1)) (hn : (k : Nat) < nL) (kk : ∀ y : Int32, y = x → G l D own cc nL ret d post Γ (pc + 1) (glv1 (k : Nat) (.int y) lv) st μ) : G l D own cc nL ret d post Γ pc lv (.int x :: st) μ := fun H locs ls ok hl hh hS => lv_istore_n ok.1 ok.2.1 hdg rfl hl hn rfl (fun ls' hl' => kk x rfl H locs ls' ok hl' hh hS)
theorem g_istore {i : Nat} {x : Int32} (hdg : decode cc pc = .ok (.istore i, 2)) (hn : i < nL) (kk : ∀ y : Int32, y = x → G l D own cc nL ret d post Γ (pc + 2) (glv1 i (.int y) lv) st μ) : G l D own cc nL ret d post Γ pc lv (.int x :: st) μ := fun H locs ls ok hl hh hS => lv_istore ok.1 ok.2.1 hdg hl hn rfl (fun ls' hl' => kk x rfl H locs ls' ok hl' hh hS)
theorem g_lstore_n {k : Fin 4} {x : Int64} (hdg : decode cc pc = .ok (.lstore_n k, 1)) (hn : (k : Nat) + 1 < nL) (kk : ∀ y : Int64, y = x → G l D own cc nL ret d post Γ (pc + 1) (glv2 (k : Nat) (.long y) lv) st μ) : G l D own cc nL ret d post Γ pc lv (.long x :: st) μ := fun H locs ls ok hl hh hS => lv_lstore_n ok.1 ok.2.1 hdg rfl hl hn rfl (fun ls' hl' => kk x rfl H locs ls' ok hl' hh hS)
theorem g_lstore {i : Nat} {x : Int64} (hdg : decode cc pc = .ok (.lstore i, 2)) (hn : i + 1 < nL) (kk : ∀ y : Int64, y = x → G l D own cc nL ret d post Γ (pc + 2) (glv2 i (.long y) lv) st μ) : G l D own cc nL ret d post Γ pc lv (.long x :: st) μ := fun H locs ls ok hl hh hS => lv_lstore ok.1 ok.2.1 hdg hl hn rfl (fun ls' hl' => kk x rfl H locs ls' ok hl' hh hS)
theorem g_astore_n {k : Fin 4} {x : Nat} (hdg : decode cc pc = .ok (.astore_n k, 1)) (hn : (k : Nat) < nL) (kk : G l D own cc nL ret d post Γ (pc + 1) (glv1 (k : Nat) (.ref x) lv) st μ) : G l D own cc nL ret d post Γ pc lv (.ref x :: st) μ := fun H locs ls ok hl hh hS => lv_astore_n ok.1 ok.2.1 hdg rfl hl hn rfl (fun ls' hl' => kk H locs ls' ok hl' hh hS)
theorem g_astore {i : Nat} {x : Nat} (hdg : decode cc pc = .ok (.astore i, 2)) (hn : i < nL) (kk : G l D own cc nL ret d post Γ (pc + 2) (glv1 i (.ref x) lv) st μ) : G l D own cc nL ret d post Γ pc lv (.ref x :: st) μ := fun H locs ls ok hl hh hS => lv_astore ok.1 ok.2.1 hdg hl hn rfl (fun ls' hl' => kk H locs ls' ok hl' hh hS)
theorem lv_lookk {lv : List (Nat × Value)} {i : Nat} {v : Value} (h : lv.lookup i = some v) : ∃ k : Nat, lv[k]? = some (i, v) := by
  induction lv with
  | nil => cases h
  | cons q l ih =>
    obtain ⟨a, b⟩ := q
    rw [List.lookup_cons] at h
    by_cases hq : i = a
    · subst hq
      simp at h
      subst h
      exact ⟨0, rfl⟩
    · have : (i == a) = false := by simpa using hq
      rw [this] at h
      obtain ⟨k, hk⟩ := ih h
      exact ⟨k + 1, hk⟩
theorem g_iinc {i : Nat} {n : Int} {x : Int32} (hdg : decode cc pc = .ok (.iinc i n, 3)) (h : lv.lookup i = some (.int x)) (hn : i < nL) (kk : ∀ y : Int32, y = x + Int32.ofInt n → G l D own cc nL ret d post Γ (pc + 3) (glv1 i (.int y) lv) st μ) : G l D own cc nL ret d post Γ pc lv st μ := fun H locs ls ok hl hh hS => by
  obtain ⟨k, hk⟩ := lv_lookk h
  exact lv_iinc ok.1 ok.2.1 hdg hl hk rfl hn rfl (fun ls' hl' => kk _ rfl H locs ls' ok hl' hh hS)
-- arithmetic
theorem g_iadd {x y : Int32} (hdg : decode cc pc = .ok (.iadd, 1)) (kk : G l D own cc nL ret d post Γ (pc + 1) lv (.int (x + y) :: st) μ) : G l D own cc nL ret d post Γ pc lv (.int y :: .int x :: st) μ := fun H locs ls ok hl hh hS => lv_iadd ok.1 ok.2.1 hdg (kk H locs ls ok hl hh hS)
theorem g_isub {x y : Int32} (hdg : decode cc pc = .ok (.isub, 1)) (kk : G l D own cc nL ret d post Γ (pc + 1) lv (.int (x - y) :: st) μ) : G l D own cc nL ret d post Γ pc lv (.int y :: .int x :: st) μ := fun H locs ls ok hl hh hS => lv_isub ok.1 ok.2.1 hdg (kk H locs ls ok hl hh hS)
theorem g_imul {x y : Int32} (hdg : decode cc pc = .ok (.imul, 1)) (kk : G l D own cc nL ret d post Γ (pc + 1) lv (.int (x * y) :: st) μ) : G l D own cc nL ret d post Γ pc lv (.int y :: .int x :: st) μ := fun H locs ls ok hl hh hS => lv_imul ok.1 ok.2.1 hdg (kk H locs ls ok hl hh hS)
theorem g_iand {x y : Int32} (hdg : decode cc pc = .ok (.iand, 1)) (kk : G l D own cc nL ret d post Γ (pc + 1) lv (.int (x &&& y) :: st) μ) : G l D own cc nL ret d post Γ pc lv (.int y :: .int x :: st) μ := fun H locs ls ok hl hh hS => lv_iand ok.1 ok.2.1 hdg (kk H locs ls ok hl hh hS)
theorem g_ior {x y : Int32} (hdg : decode cc pc = .ok (.ior, 1)) (kk : G l D own cc nL ret d post Γ (pc + 1) lv (.int (x ||| y) :: st) μ) : G l D own cc nL ret d post Γ pc lv (.int y :: .int x :: st) μ := fun H locs ls ok hl hh hS => lv_ior ok.1 ok.2.1 hdg (kk H locs ls ok hl hh hS)
end GR
