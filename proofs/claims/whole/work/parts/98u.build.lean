/-! CONSTRUCTORS: 'KG .. pc lv st ws': from every heap that holds the world ws (the object that is being made stands first), the constructor comes to its end with the world mk a, for some addresses a -/
def knest : List Cond := [.methodLinkNest "WristGoal$Reader" 11 ⟨"WristGoal$Formula", "<init>", "()V"⟩ "WristGoal", .methodLinkNest "WristGoal" 27 ⟨"WristGoal$Told", "<init>", "()V"⟩ "WristGoal", .methodLinkNest "WristGoal$Told" 48 ⟨"WristGoal$Laws", "<init>", "()V"⟩ "WristGoal", .methodLinkNest "WristGoal$World" 27 ⟨"WristGoal$Person", "<init>", "()V"⟩ "WristGoal", .methodLinkNest "WristGoal" 50 ⟨"WristGoal$Notes", "<init>", "()V"⟩ "WristGoal", .methodLinkNest "WristGoal" 57 ⟨"WristGoal$Changes", "<init>", "()V"⟩ "WristGoal"]
def kX (D : gD) (A : Nat → Prop) (U : State) (H : Heap) : Prop := va_K D.1 vwCl (gtys D) U ∧ (∀ w ∈ knest, va_Nw w U) ∧ va_AO "WristGoal$Person" U ∧ sXs A (D.2.2 2000 0) (D.2.2 2001 0) U H ∧ rXs (D.2.2 2000 0) (D.2.2 2000 1) (D.2.2 2000 2) U
theorem kX.go {D : gD} {A B : Nat → Prop} {s U : State} {H : Heap} {locs : List Loc} (hAO : va_AO "WristGoal$Person" U) (h : kX D A s s.heap) (hU : U.heap = H) (hW : s.WarmedH U.vm) (hS : va_S A s.heap H locs) (hAB : ∀ q, B q → A q) : kX D B U U.heap := by
  refine ⟨va_K.moved hW.alike h.1, fun w hw => ?_, hAO, ?_, h.2.2.2.2.warm hW⟩
  · have h2 := h.2.1 w hw
    simp only [knest, List.mem_cons, List.not_mem_nil, or_false] at hw
    rcases hw with rfl | rfl | rfl | rfl | rfl | rfl <;> exact va_Nw.warmM hW h2
  · rw [hU]
    exact ((h.2.2.2.1.moved hW.alike).kept hS.2.1).narrow hAB
def kOk (D : gD) (A : Nat → Prop) (own : String) (cc : ByteArray) (nL : Nat) (Γ : gC) : Prop :=
  Γ.1.tables.exec = Jvm.exec ∧ Γ.2.2.2.2.2.2.2.code = cc ∧ Γ.2.2.2.2.2.2.2.maxLocals = nL ∧ Γ.2.2.1.vm.findClass own = some Γ.2.2.2.1.cls ∧ (∀ w ∈ gw, w.before Γ.2.2.2.2.1 Γ.2.2.1 = true) ∧ kX D A Γ.2.2.1 Γ.2.2.1.heap ∧ (∀ q, Γ.2.2.1.heap.size ≤ q → A q) ∧ Γ.2.2.2.2.2.2.1.name = "<init>" ∧ Γ.2.2.2.2.2.2.1.sig.returnType = none ∧ Γ.2.2.2.2.2.2.1.locks = false
def kQ (D : gD) (A : Nat → Prop) (mk : (Nat → Nat) → va_W) : Array Value → State → Outcome → State → Prop := va_Qv (fun _ : Nat → Nat => True) (fun ad t => va_P D.1 vwCl (mk ad) t.heap ∧ va_D A (mk ad)) A
def KG (l : Launch) (D : gD) (A : Nat → Prop) (own : String) (cc : ByteArray) (nL : Nat) (R : Room) (mc ms : Nat) (mk : (Nat → Nat) → va_W) (Γ : gC) (kc ks pc : Nat) (lv : List (Nat × Value)) (st : List Value) (ws : va_W) : Prop :=
  ∀ (H : Heap) (locs : List Loc) (ls : Array Slot), kOk D A own cc nL Γ → lv_has ls nL lv → va_P D.1 vwCl ws H → va_D A ws → va_S A Γ.2.2.1.heap H locs →
    W Γ.1 l Γ.2.1 R Γ.2.2.1 Γ.2.2.2.1 Γ.2.2.2.2.1 Γ.2.2.2.2.2.1 Γ.2.2.2.2.2.2.1 Γ.2.2.2.2.2.2.2 H locs kc ks (MQ Γ.2.2.2.2.2.1 (kQ D A mk) Γ.2.2.2.2.1 Γ.2.2.1 mc ms A) (F0 Γ.2.2.2.1 pc ls st)
def krm (fr mc ms : Nat) : Room := { frames := fr, cells := mc, slots := ms, locals := 64 * fr }
/-- a constructor's contract: from the world w0 (in a heap of sz cells) to the world mk a -/
def KCt (l : Launch) (D : gD) (fr mc ms : Nat) (y : MethodName) (cc : ByteArray) (nL : Nat) (av : List Value) (w0 : va_W) (mk : (Nat → Nat) → va_W) (sz : Nat) : Prop :=
  Met l y (gws y cc nL none) (krm fr mc ms) (va_Pc av (fun U => U.heap.size = sz ∧ va_P D.1 vwCl w0 U.heap ∧ va_D (fun _ => True) w0 ∧ kX D (va_A w0 sz) U U.heap)) (kQ D (va_A w0 sz) mk) mc ms (va_A w0 sz)
theorem KCt_of {l : Launch} {D : gD} {fr mc ms : Nat} {y : MethodName} {own : String} {cc : ByteArray} {nL : Nat} {av : List Value} {w0 : va_W} {mk : (Nat → Nat) → va_W} {sz : Nat} (hown : y.cls = own) (hy : plainName y.cls = true) (hyn : y.name = "<init>") (hlen : (lg_sl av).length ≤ nL)
    (body : ∀ Γ : gC, KG l D (va_A w0 sz) own cc nL (krm fr mc ms) mc ms mk Γ 0 0 0 (lv_args 0 av) [] w0) : KCt l D fr mc ms y cc nL av w0 mk sz := by
  refine Met.ofW (cc := cc) (maxL := nL) (ret := none) hy rfl ?_
  intro p e s m args below meth c s₁ B hml hv
  obtain ⟨rfl, hsz, hP, hD, hk⟩ := hv
  have hts := atoms_spec (ws := gws y cc nL none) B.pre
  have hn : s.vm.findClass own = some m.cls := by rw [← hown]; exact findClass_of_methodNamed B.named
  have hin : meth.name = "<init>" := (name_of_methodNamed B.named B.method).1.trans hyn
  rw [lg_entry_eq]
  exact body (p, e, s, m, av.toArray, below, meth, c) s.heap [] _ ⟨B.exec, B.bytes, hml, hn, fun w hw => hts w (List.mem_cons_of_mem _ hw), hk, fun q hq => Or.inr (by rw [← hsz]; exact hq), hin, B.returns, B.notSynchronized⟩ (lv_entry av hlen) hP hD.self va_S.rf
section KR
variable {l : Launch} {D : gD} {A : Nat → Prop} {own : String} {cc : ByteArray} {nL : Nat} {R : Room} {mc ms : Nat} {mk : (Nat → Nat) → va_W} {Γ : gC} {kc ks pc : Nat} {lv : List (Nat × Value)} {st : List Value} {ws : va_W}
theorem k_iconst {n : Int} (v : Int32) (hdg : decode cc pc = .ok (.iconst n, 1)) (hv : Int32.ofInt n = v) (kk : KG l D A own cc nL R mc ms mk Γ kc ks (pc + 1) lv (.int v :: st) ws) : KG l D A own cc nL R mc ms mk Γ kc ks pc lv st ws := fun H locs ls ok hl hP hD hS => lv_iconst ok.1 ok.2.1 hdg hv (kk H locs ls ok hl hP hD hS)
theorem k_bipush {n : Int} (v : Int32) (hdg : decode cc pc = .ok (.bipush n, 2)) (hv : (Int8.ofInt n).toInt32 = v) (kk : KG l D A own cc nL R mc ms mk Γ kc ks (pc + 2) lv (.int v :: st) ws) : KG l D A own cc nL R mc ms mk Γ kc ks pc lv st ws := fun H locs ls ok hl hP hD hS => lv_bipush ok.1 ok.2.1 hdg hv (kk H locs ls ok hl hP hD hS)
theorem k_sipush {n : Int} (v : Int32) (hdg : decode cc pc = .ok (.sipush n, 3)) (hv : (Int16.ofInt n).toInt32 = v) (kk : KG l D A own cc nL R mc ms mk Γ kc ks (pc + 3) lv (.int v :: st) ws) : KG l D A own cc nL R mc ms mk Γ kc ks pc lv st ws := fun H locs ls ok hl hP hD hS => lv_sipush ok.1 ok.2.1 hdg hv (kk H locs ls ok hl hP hD hS)
theorem k_aload_n {k : Fin 4} {x : Nat} (hdg : decode cc pc = .ok (.aload_n k, 1)) (h : lv.lookup (k : Nat) = some (.ref x)) (kk : KG l D A own cc nL R mc ms mk Γ kc ks (pc + 1) lv (.ref x :: st) ws) : KG l D A own cc nL R mc ms mk Γ kc ks pc lv st ws := fun H locs ls ok hl hP hD hS => lv_aload_n ok.1 ok.2.1 hdg rfl (lv_look hl h) (kk H locs ls ok hl hP hD hS)
theorem k_dup {v : Value} (hdg : decode cc pc = .ok (.dup, 1)) (hv : v.category = 1) (kk : KG l D A own cc nL R mc ms mk Γ kc ks (pc + 1) lv (v :: v :: st) ws) : KG l D A own cc nL R mc ms mk Γ kc ks pc lv (v :: st) ws := fun H locs ls ok hl hP hD hS => lv_dup ok.1 ok.2.1 hdg hv (kk H locs ls ok hl hP hD hS)
theorem oi_w : Cond.instanceMethod Lib.objectInit ∈ gw ∧ Cond.code Lib.objectInit ⟨#[0xb1]⟩ 1 none ∈ gw := ⟨gw_t 30 (by decide +kernel) (by decide +kernel), gw_t 31 (by decide +kernel) (by decide +kernel)⟩
theorem k_objInit {idx a : Nat} (hw : Cond.methodLink own idx Lib.objectInit ∈ gw) (hR : 1 ≤ R.frames) (hRl : 20 ≤ R.locals) (hdg : decode cc pc = .ok (.invokespecial idx, 3)) (kk : KG l D A own cc nL R mc ms mk Γ kc ks (pc + 3) lv [] ws) : KG l D A own cc nL R mc ms mk Γ kc ks pc lv [.ref a] ws := fun H locs ls ok hl hP hD hS => by
  refine W.objInit ok.1 ok.2.1 ok.2.2.2.1 (ok.2.2.2.2.1 _ hw) (ok.2.2.2.2.1 _ oi_w.1) (ok.2.2.2.2.1 _ oi_w.2) rfl (hl.1.trans ok.2.2.1.symm) rfl hdg hR ?_ ?_
  · show 2 * 0 + 0 + 12 ≤ R.locals
    omega
  · exact kk H locs ls ok hl hP hD hS
theorem k_newa {atype : ArrayType} {ty : FieldType} {ti N : Nat} {n : Int32} {arr : vp_A} (hw : Cond.arrayClass (newarray.typeOf atype) ∈ gw) (hty : newarray.typeOf atype = ty) (htk : (gtys D)[ti]? = some (D.2.1 (ti + 1), ty)) (hq : ∀ (U : State) (cA cB : ClassId), va_RA U cA ty → va_RA U cB ty → cA = cB) (ha : ∀ cA : ClassId, vp_cell cA arr = arrV cA N (fun _ => defaultValue ty)) (hn : ¬ n < 0) (hN : n.toNatClampNeg = N) (hb : N * componentBytes ty ≤ 536870912) (hc : kc + 1 ≤ R.cells) (hs : ks + N ≤ R.slots) (hdg : decode cc pc = .ok (.newarray atype, 2))
    (kk : ∀ q : Nat, KG l D A own cc nL R mc ms mk Γ (kc + 1) (ks + N) (pc + 2) lv (.ref q :: st) (ws ++ [(q, .inl (D.2.1 (ti + 1), arr))])) : KG l D A own cc nL R mc ms mk Γ kc ks pc lv (.int n :: st) ws := fun H locs ls ok hl hP hD hS => by
  refine va_newa (a0 := arr) ok.1 ok.2.1 (ok.2.2.2.2.1 _ hw) hty ok.2.2.2.2.2.1.1 hP hD hS ok.2.2.2.2.2.2.1 ha hn hN hb hc hs hdg (fun q cA H1 hK1 hP1 hD1 hS1 => ?_)
  have hcA : cA = D.2.1 (ti + 1) := hq Γ.2.2.1 _ _ (hK1.2 5 (cA, ty) rfl).2 (ok.2.2.2.2.2.1.1.2 ti _ htk).2
  subst hcA
  exact kk q H1 locs ls ok hl hP1 hD1 hS1
theorem k_putF {ci j idx h0 : Nat} {fs : List Value} {rest : va_W} {v : Value} {ty : FieldType} (hF : gFL own idx ci j) (hfin : (gTt ci j).2.2.2 = true) (hdecl : (gTt ci j).1 = own) (hd : parseFieldDescriptor (gTt ci j).2.2.1 = some ty) (hn : narrow ty v = v) (hf : fits ty v = true) (hlen : j < fs.length) (hdg : decode cc pc = .ok (.putfield idx, 3)) (kk : KG l D A own cc nL R mc ms mk Γ kc ks (pc + 3) lv st ((h0, .inr (ci, fs.set j v)) :: rest)) : KG l D A own cc nL R mc ms mk Γ kc ks pc lv (v :: .ref h0 :: st) ((h0, .inr (ci, fs)) :: rest) := fun H locs ls ok hl hP hD hS => by
  obtain ⟨⟨oo1, oo2, oo3, oo4, oo5, oo6⟩, hj, hw⟩ := hF
  exact va_putF (D := D.1) (ci := ci) (v := v) (ty := ty) (C := gCn ci) (T := gTt ci) (N := (gsh ci).2.2) ok.1 ok.2.1 ok.2.2.2.2.1 oo4 (gtyf ci) oo5 oo6 ok.2.2.2.1 ok.2.2.2.2.2.1.1 hP hD hS 0 rfl oo3 j hj (ok.2.2.2.2.1 _ hw) (fun _ h9 => h9) hfin ok.2.2.2.2.2.2.2.1 hdecl hd hn hf hlen hdg (fun H1 locs1 hP1 hD1 hS1 => kk H1 locs1 ls ok hl hP1 hD1 hS1)
theorem k_put {ci j idx h0 : Nat} {fs : List Value} {rest : va_W} {v : Value} {ty : FieldType} (hF : gFL own idx ci j) (hfin : (gTt ci j).2.2.2 = false) (hd : parseFieldDescriptor (gTt ci j).2.2.1 = some ty) (hn : narrow ty v = v) (hf : fits ty v = true) (hlen : j < fs.length) (hdg : decode cc pc = .ok (.putfield idx, 3)) (kk : KG l D A own cc nL R mc ms mk Γ kc ks (pc + 3) lv st ((h0, .inr (ci, fs.set j v)) :: rest)) : KG l D A own cc nL R mc ms mk Γ kc ks pc lv (v :: .ref h0 :: st) ((h0, .inr (ci, fs)) :: rest) := fun H locs ls ok hl hP hD hS => by
  obtain ⟨⟨oo1, oo2, oo3, oo4, oo5, oo6⟩, hj, hw⟩ := hF
  exact va_put (D := D.1) (ci := ci) (v := v) (ty := ty) (C := gCn ci) (T := gTt ci) (N := (gsh ci).2.2) ok.1 ok.2.1 ok.2.2.2.2.1 oo4 (gtyf ci) oo5 oo6 ok.2.2.2.1 ok.2.2.2.2.2.1.1 hP hD hS 0 rfl oo3 j hj (ok.2.2.2.2.1 _ hw) (fun _ h9 => h9) hfin hd hn hf hlen hdg (fun H1 locs1 hP1 hD1 hS1 => kk H1 locs1 ls ok hl hP1 hD1 hS1)
theorem k_new {ci idx N : Nat} {fs : List Value} (hO : gObj ci) (hN : (gsh ci).2.2 = N) (hcl : Cond.classLink own idx (gCn ci) ∈ gw) (hin : Cond.instantiable (gCn ci) N ∈ gw) (hini : Cond.initialized (gCn ci) ∈ gw) (hfs : ∀ j, j < N → defaultValue (gtyf ci j) = vp_V fs j) (hc : kc + 1 ≤ R.cells) (hs : ks + N ≤ R.slots) (hdg : decode cc pc = .ok (.new idx, 3))
    (kk : ∀ q : Nat, KG l D A own cc nL R mc ms mk Γ (kc + 1) (ks + N) (pc + 3) lv (.ref q :: st) (ws ++ [(q, .inr (ci, fs))])) : KG l D A own cc nL R mc ms mk Γ kc ks pc lv st ws := fun H locs ls ok hl hP hD hS => by
  subst hN
  obtain ⟨oo1, oo2, oo3, oo4, oo5, oo6⟩ := hO
  exact va_new (ci := ci) (fs := fs) (C := gCn ci) (T := gTt ci) (N := (gsh ci).2.2) ok.1 ok.2.1 ok.2.2.2.2.1 oo4 (gtyf ci) oo5 ok.2.2.2.1 (ok.2.2.2.2.1 _ hcl) (ok.2.2.2.2.1 _ hin) (ok.2.2.2.2.1 _ hini) ok.2.2.2.2.2.1.1 hP hD hS ok.2.2.2.2.2.2.1 oo3 hfs hc hs hdg (fun q H1 hP1 hD1 hS1 => kk q H1 locs ls ok hl hP1 hD1 hS1)
theorem k_vret (ad : Nat → Nat) (hmk : ws = mk ad) (hc : kc = mc) (hs : ks = ms) (hdg : decode cc pc = .ok (.return_, 1)) : KG l D A own cc nL R mc ms mk Γ kc ks pc lv [] ws := fun H locs ls ok hl hP hD hS => by
  subst hmk
  subst hc
  subst hs
  exact W.vret ok.1 ok.2.1 ok.2.2.2.2.2.2.2.2.1 (fun t ht hW => ⟨⟨ad, rfl, trivial, by rw [ht]; exact hP, hD⟩, hS.F ht⟩) hS.2.2 hdg (hlocks := ok.2.2.2.2.2.2.2.2.2)
end KR
