/-! THE CLAIM OUT OF ONE WALK OF THE LAW'S BODY. Your part is whole_start (and what it stands on); all else here is the same for every law, but numbers. -/
def R_law : String := "WristGoalLaw"
def lw_P (b : Addr) (xs : List Int32) (args : Array Value) (s : State) : Prop := args = #[.ref b] ∧ s.IntsAt b xs ∧ xs.length ≤ 3072 ∧ (Jvm.Cond.and given_1 narrow_1).before args s = true
def lw_Q (_ : Array Value) (s : State) (o : Outcome) (t : State) : Prop := o = .returned (some (.int 1)) ∧ Framed s o t [] 601024 7293034
def lw_Z (below : List Frame) (a : Array Value) (s : State) : State → Prop := fun t => ∃ o, t.status = .running ∧ Ended t below o ∧ lw_Q a s o t
/-- the law's own end, with 1 on the stack, nothing written that was there before, its room as the claim has it -/
theorem lw_ret {p : Program} {l : Launch} {e : Env} {s : State} {m : MethodId} {below : List Frame} {meth : Method} {c : Code} {b : Nat} (hx : p.tables.exec = Jvm.exec) (hb : c.code = code) (hr : meth.sig.returnType = ret) (hlocks : meth.locks = false) {pc : Nat} {H : Heap} {ls : Array Slot} (hdg : decode code pc = .ok (.ireturn, 1)) : W p l e room_1 s m #[Value.ref b] below meth c H [] 601024 7293034 (lw_Z below #[Value.ref b] s) (F0 m pc ls [.int 1]) := by
  intro T hT X
  obtain ⟨fs, hret, hrun, hended, hW, hframe⟩ := X.leave (v := some (.int 1)) (hlocks := hlocks) (fun h => by rw [hr] at h; cases h)
  have hmeth' : T.vm.method? m = some meth := X.method'
  refine ⟨T.setFrames fs, ?_, .returned (some (.int 1)), hrun, hended, rfl, ⟨_, rfl⟩, hW, hframe⟩
  jvm_step X.here [X.here.top, hx, hb, hdg, hmeth', hr, ret, narrow_b1]
  (try refine ⟨rfl, ?_⟩); (try refine ⟨rfl, ?_⟩)
  first | (intro acts; rw [hret _ acts rfl rfl rfl]) | rw [hret _ _ rfl rfl rfl]
  exact Steps.refl _
/-- what holds at the law's entry: the machine, the code, the tables' words (any of lw_tbl by 'hts w (by decide +kernel)'), the script of L ints xs at the cell b, what the Statement gives of the start (any of its parts by flat_of_before) -/
def lw_At (p : Program) (s : State) (m : MethodId) (meth : Method) (c : Code) (b L : Nat) (xs : Nat → Int32) : Prop :=
  p.tables.exec = Jvm.exec ∧ c.code = code ∧ meth.sig.returnType = ret ∧ c.maxLocals = 7 ∧ s.vm.findClass R_law = some m.cls ∧ (∀ w ∈ lw_tbl, w.before #[Value.ref b] s = true) ∧ va_X b L xs s s.heap ∧ b < s.heap.size ∧ meth.locks = false ∧ (Jvm.Cond.and given_1 narrow_1).before #[Value.ref b] s = true
/-! a static field and where it lies: what the word laysStatic says, kept over calls -/
def zL (C nF dF : String) (A : Nat → Prop) (U : State) (H : Heap) : Prop := ∃ (cf : ClassId) (kf : Class) (fi : Nat) (fd : Field) (a : Nat) (cell : Cell), U.vm.findClass C = some cf ∧ U.fieldFound? C nF dF = some (cf, kf, fi, fd) ∧ fd.isStatic = true ∧ kf.statics = some a ∧ H[a]? = some cell ∧ cell.vm.isStatics = true ∧ cell.cls = cf ∧ fd.slot < cell.slots.size ∧ kf.staticTypes[fd.slot]? = some fd.type ∧ ¬ A a
theorem zL.moved {C nF dF : String} {A : Nat → Prop} {u U : State} {H : Heap} (hvm : u.vm.Alike U.vm) (h : zL C nF dF A u H) : zL C nF dF A U H := by
  obtain ⟨cf, kf, fi, fd, a, cell, zz1, zz2, zz3, zz4, zz5, zz6, zz7, zz8, zz9, zz0⟩ := h
  obtain ⟨k', hi', he⟩ := State.fieldFound?_setVm hvm zz2
  exact ⟨cf, k', fi, fd, a, cell, by rw [hvm.findClass]; exact zz1, hi', zz3, by rw [he]; exact zz4, zz5, zz6, zz7, zz8, by rw [he]; exact zz9, zz0⟩
theorem zL.kept {C nF dF : String} {A : Nat → Prop} {U : State} {H H1 : Heap} (h : zL C nF dF A U H) (hq : ∀ a : Nat, a < H.size → ¬ A a → H1[a]? = H[a]?) : zL C nF dF A U H1 := by
  obtain ⟨cf, kf, fi, fd, a, cell, zz1, zz2, zz3, zz4, zz5, zz6, zz7, zz8, zz9, zz0⟩ := h
  exact ⟨cf, kf, fi, fd, a, cell, zz1, zz2, zz3, zz4, by rw [hq a (Array.getElem?_eq_some_iff.mp zz5).1 zz0]; exact zz5, zz6, zz7, zz8, zz9, zz0⟩
theorem zL.narrow {C nF dF : String} {A B : Nat → Prop} {U : State} {H : Heap} (h : zL C nF dF A U H) (hAB : ∀ q, B q → A q) : zL C nF dF B U H := by
  obtain ⟨cf, kf, fi, fd, a, cell, zz1, zz2, zz3, zz4, zz5, zz6, zz7, zz8, zz9, zz0⟩ := h
  exact ⟨cf, kf, fi, fd, a, cell, zz1, zz2, zz3, zz4, zz5, zz6, zz7, zz8, zz9, fun hb => zz0 (hAB a hb)⟩
theorem zL.of {C nF dF : String} {A : Nat → Prop} {args : Array Value} {s : State} (h : (Cond.laysStatic C nF dF).before args s = true) (hA : ∀ a : Nat, a < s.heap.size → ¬ A a) : zL C nF dF A s s.heap := by
  obtain ⟨cf, kf, fi, fd, a, cell, zz1, zz2, zz3, zz4, zz5, zz6, zz7, zz8, zz9⟩ := Cond.laysStatic_spec h
  exact ⟨cf, kf, fi, fd, a, cell, zz1, zz2, zz3, zz4, zz5, zz6, zz7, zz8, zz9, hA a (Array.getElem?_eq_some_iff.mp zz5).1⟩
theorem zL.word {C nF dF : String} {A : Nat → Prop} {args : Array Value} {s : State} (h : zL C nF dF A s s.heap) : (Cond.laysStatic C nF dF).before args s = true := by
  obtain ⟨cf, kf, fi, fd, a, cell, zz1, zz2, zz3, zz4, zz5, zz6, zz7, zz8, zz9, -⟩ := h
  simp [Cond.before, Cond.holds, Cond.value, zz1, zz2, zz3, zz4, zz5, zz6, zz7, zz8, zz9]
def zLs (A : Nat → Prop) (U : State) (H : Heap) : Prop := zL "java/lang/Throwable" "UNASSIGNED_STACK" "[Ljava/lang/StackTraceElement;" A U H ∧ zL "java/lang/Throwable" "SUPPRESSED_SENTINEL" "Ljava/util/List;" A U H
theorem zLs.go {A B : Nat → Prop} {s U : State} {H : Heap} {locs : List Loc} (h : zLs A s s.heap) (hvm : s.vm.Alike U.vm) (hS : va_S A s.heap H locs) (hAB : ∀ q, B q → A q) : zLs B U H := ⟨((h.1.moved hvm).kept hS.2.1).narrow hAB, ((h.2.moved hvm).kept hS.2.1).narrow hAB⟩
/-! THE LAW'S LOOP: 'LG .. pc lv st μ g': from every heap that holds μ and the law's own long array g, at pc with these locals and this stack, the law comes to its end with true -/
abbrev lC : Type := Program × Env × State × MethodId × List Frame × Method × Code
def AL (s : State) : Nat → Prop := fun q => s.heap.size ≤ q
def lX (D : gD) (s : State) : Prop := va_K D.1 vwCl (gtys D) s ∧ (∀ w ∈ gnest, va_Nw w s) ∧ sXs (AL s) (D.2.2 2000 0) (D.2.2 2001 0) s s.heap ∧ tXs (AL s) s s.heap ∧ rXs (D.2.2 2000 0) (D.2.2 2000 1) (D.2.2 2000 2) s ∧ zLs (AL s) s s.heap
def lOk (D : gD) (o b L : Nat) (xs : Nat → Int32) (Γ : lC) : Prop :=
  lw_At Γ.1 Γ.2.2.1 Γ.2.2.2.1 Γ.2.2.2.2.2.1 Γ.2.2.2.2.2.2 b L xs ∧ L ≤ 3072 ∧ lX D Γ.2.2.1 ∧ (∀ q, gdom D q → AL Γ.2.2.1 q) ∧ ¬ gdom D o ∧ AL Γ.2.2.1 o
def lHd (D : gD) (μ : gMem) (o : Nat) (g : Nat → Int64) (H : Heap) : Prop := ghold D μ H ∧ va_P D.1 vwCl [(o, .inl (D.2.1 4, 1, .inr (.inl g)))] H
def LG (l : Launch) (D : gD) (o b L : Nat) (xs : Nat → Int32) (Γ : lC) (kc ks pc : Nat) (lv : List (Nat × Value)) (st : List Value) (μ : gMem) (g : Nat → Int64) : Prop :=
  ∀ (H : Heap) (locs : List Loc) (ls : Array Slot), lOk D o b L xs Γ → lv_has ls 7 lv → lHd D μ o g H → va_S (AL Γ.2.2.1) Γ.2.2.1.heap H locs →
    W Γ.1 l Γ.2.1 room_1 Γ.2.2.1 Γ.2.2.2.1 #[Value.ref b] Γ.2.2.2.2.1 Γ.2.2.2.2.2.1 Γ.2.2.2.2.2.2 H locs kc ks (lw_Z Γ.2.2.2.2.1 #[Value.ref b] Γ.2.2.1) (F0 Γ.2.2.2.1 pc ls st)
theorem lX.gk {D : gD} {s U : State} {H : Heap} {locs : List Loc} (h : lX D s) (hD : ∀ q, gdom D q → AL s q) (hU : U.heap = H) (hS : va_S (AL s) s.heap H locs) (hW : s.WarmedH U.vm) : gK D U := by
  refine ⟨va_K.moved hW.alike h.1, fun w hw => ?_, ?_, ?_, h.2.2.2.2.1.warm hW⟩
  · have h2 := h.2.1 w hw
    simp only [gnest, List.mem_cons, List.not_mem_nil, or_false] at hw
    rcases hw with rfl | rfl | rfl | rfl | rfl <;> exact va_Nw.warmM hW h2
  · rw [hU]
    exact ((h.2.2.1.moved hW.alike).kept hS.2.1).narrow hD
  · rw [hU]
    exact ((h.2.2.2.1.moved hW.alike).kept hS.2.1).narrow hD
section LGR
variable {l : Launch} {D : gD} {o b L : Nat} {xs : Nat → Int32} {Γ : lC} {kc ks pc : Nat} {lv : List (Nat × Value)} {st : List Value} {μ : gMem} {g : Nat → Int64}
theorem l_sub {lv' : List (Nat × Value)} (ix9 : List Nat) (h : lv_pick lv ix9 = lv') (kk : LG l D o b L xs Γ kc ks pc lv' st μ g) : LG l D o b L xs Γ kc ks pc lv st μ g := fun H locs ls ok hl hh hS => kk H locs ls ok (lv_sub hl ix9 h) hh hS
theorem l_iconst {n : Int} (v : Int32) (hdg : decode code pc = .ok (.iconst n, 1)) (hv : Int32.ofInt n = v) (kk : LG l D o b L xs Γ kc ks (pc + 1) lv (.int v :: st) μ g) : LG l D o b L xs Γ kc ks pc lv st μ g := fun H locs ls ok hl hh hS => lv_iconst ok.1.1 ok.1.2.1 hdg hv (kk H locs ls ok hl hh hS)
theorem l_bipush {n : Int} (v : Int32) (hdg : decode code pc = .ok (.bipush n, 2)) (hv : (Int8.ofInt n).toInt32 = v) (kk : LG l D o b L xs Γ kc ks (pc + 2) lv (.int v :: st) μ g) : LG l D o b L xs Γ kc ks pc lv st μ g := fun H locs ls ok hl hh hS => lv_bipush ok.1.1 ok.1.2.1 hdg hv (kk H locs ls ok hl hh hS)
theorem l_aload_n {k : Fin 4} {x : Nat} (hdg : decode code pc = .ok (.aload_n k, 1)) (h : lv.lookup (k : Nat) = some (.ref x)) (kk : LG l D o b L xs Γ kc ks (pc + 1) lv (.ref x :: st) μ g) : LG l D o b L xs Γ kc ks pc lv st μ g := fun H locs ls ok hl hh hS => lv_aload_n ok.1.1 ok.1.2.1 hdg rfl (lv_look hl h) (kk H locs ls ok hl hh hS)
theorem l_iload {i : Nat} {x : Int32} (hdg : decode code pc = .ok (.iload i, 2)) (h : lv.lookup i = some (.int x)) (kk : LG l D o b L xs Γ kc ks (pc + 2) lv (.int x :: st) μ g) : LG l D o b L xs Γ kc ks pc lv st μ g := fun H locs ls ok hl hh hS => lv_iload ok.1.1 ok.1.2.1 hdg (lv_look hl h) (kk H locs ls ok hl hh hS)
theorem l_istore {i : Nat} {x : Int32} (hdg : decode code pc = .ok (.istore i, 2)) (hn : i < 7) (kk : LG l D o b L xs Γ kc ks (pc + 2) (glv1 i (.int x) lv) st μ g) : LG l D o b L xs Γ kc ks pc lv (.int x :: st) μ g := fun H locs ls ok hl hh hS => lv_istore ok.1.1 ok.1.2.1 hdg hl hn rfl (fun ls' hl' => kk H locs ls' ok hl' hh hS)
theorem l_iinc {i : Nat} {n : Int} {x : Int32} (hdg : decode code pc = .ok (.iinc i n, 3)) (h : lv.lookup i = some (.int x)) (hn : i < 7) (kk : LG l D o b L xs Γ kc ks (pc + 3) (glv1 i (.int (x + Int32.ofInt n)) lv) st μ g) : LG l D o b L xs Γ kc ks pc lv st μ g := fun H locs ls ok hl hh hS => by
  obtain ⟨k, hk⟩ := lv_lookk h
  exact lv_iinc ok.1.1 ok.1.2.1 hdg hl hk rfl hn rfl (fun ls' hl' => kk H locs ls' ok hl' hh hS)
theorem l_iadd {x y : Int32} (hdg : decode code pc = .ok (.iadd, 1)) (kk : LG l D o b L xs Γ kc ks (pc + 1) lv (.int (x + y) :: st) μ g) : LG l D o b L xs Γ kc ks pc lv (.int y :: .int x :: st) μ g := fun H locs ls ok hl hh hS => lv_iadd ok.1.1 ok.1.2.1 hdg (kk H locs ls ok hl hh hS)
theorem l_isub {x y : Int32} (hdg : decode code pc = .ok (.isub, 1)) (kk : LG l D o b L xs Γ kc ks (pc + 1) lv (.int (x - y) :: st) μ g) : LG l D o b L xs Γ kc ks pc lv (.int y :: .int x :: st) μ g := fun H locs ls ok hl hh hS => lv_isub ok.1.1 ok.1.2.1 hdg (kk H locs ls ok hl hh hS)
theorem l_iand {x y : Int32} (hdg : decode code pc = .ok (.iand, 1)) (kk : LG l D o b L xs Γ kc ks (pc + 1) lv (.int (x &&& y) :: st) μ g) : LG l D o b L xs Γ kc ks pc lv (.int y :: .int x :: st) μ g := fun H locs ls ok hl hh hS => lv_iand ok.1.1 ok.1.2.1 hdg (kk H locs ls ok hl hh hS)
theorem l_i2l {x : Int32} (hdg : decode code pc = .ok (.i2l, 1)) (kk : LG l D o b L xs Γ kc ks (pc + 1) lv (.long x.toInt64 :: st) μ g) : LG l D o b L xs Γ kc ks pc lv (.int x :: st) μ g := fun H locs ls ok hl hh hS => lv_i2l ok.1.1 ok.1.2.1 hdg rfl (kk H locs ls ok hl hh hS)
theorem l_lcmp {x y : Int64} (hdg : decode code pc = .ok (.lcmp, 1)) (kk : LG l D o b L xs Γ kc ks (pc + 1) lv (.int (lg_cmp x y) :: st) μ g) : LG l D o b L xs Γ kc ks pc lv (.long y :: .long x :: st) μ g := fun H locs ls ok hl hh hS => W.lcmp ok.1.1 ok.1.2.1 hdg (kk H locs ls ok hl hh hS)
theorem l_goto {off : Int} {tgt : Nat} (hdg : decode code pc = .ok (.goto off, 3)) (ht : (pc : Int) + off = (tgt : Int)) (kk : LG l D o b L xs Γ kc ks tgt lv st μ g) : LG l D o b L xs Γ kc ks pc lv st μ g := fun H locs ls ok hl hh hS => lv_goto ok.1.1 ok.1.2.1 hdg ht (kk H locs ls ok hl hh hS)
theorem l_if_eq {x : Int32} {off : Int} {tgt : Nat} (hdg : decode code pc = .ok (.ifCond .eq off, 3)) (ht : (pc : Int) + off = (tgt : Int)) (kt : x = 0 → LG l D o b L xs Γ kc ks tgt lv st μ g) (kf : ¬ x = 0 → LG l D o b L xs Γ kc ks (pc + 3) lv st μ g) : LG l D o b L xs Γ kc ks pc lv (.int x :: st) μ g := fun H locs ls ok hl hh hS => lv_if_eq ok.1.1 ok.1.2.1 hdg ht (fun h => kt h H locs ls ok hl hh hS) (fun h => kf h H locs ls ok hl hh hS)
theorem l_if_ne {x : Int32} {off : Int} {tgt : Nat} (hdg : decode code pc = .ok (.ifCond .ne off, 3)) (ht : (pc : Int) + off = (tgt : Int)) (kt : ¬ x = 0 → LG l D o b L xs Γ kc ks tgt lv st μ g) (kf : x = 0 → LG l D o b L xs Γ kc ks (pc + 3) lv st μ g) : LG l D o b L xs Γ kc ks pc lv (.int x :: st) μ g := fun H locs ls ok hl hh hS => lv_if_ne ok.1.1 ok.1.2.1 hdg ht (fun h => kt h H locs ls ok hl hh hS) (fun h => kf h H locs ls ok hl hh hS)
theorem l_icmp_eq {x y : Int32} {off : Int} {tgt : Nat} (hdg : decode code pc = .ok (.if_icmp .eq off, 3)) (ht : (pc : Int) + off = (tgt : Int)) (kt : x = y → LG l D o b L xs Γ kc ks tgt lv st μ g) (kf : ¬ x = y → LG l D o b L xs Γ kc ks (pc + 3) lv st μ g) : LG l D o b L xs Γ kc ks pc lv (.int y :: .int x :: st) μ g := fun H locs ls ok hl hh hS => lv_icmp_eq ok.1.1 ok.1.2.1 hdg ht (fun h => kt h H locs ls ok hl hh hS) (fun h => kf h H locs ls ok hl hh hS)
theorem l_icmp_gt {x y : Int32} {off : Int} {tgt : Nat} (hdg : decode code pc = .ok (.if_icmp .gt off, 3)) (ht : (pc : Int) + off = (tgt : Int)) (kt : y < x → LG l D o b L xs Γ kc ks tgt lv st μ g) (kf : ¬ y < x → LG l D o b L xs Γ kc ks (pc + 3) lv st μ g) : LG l D o b L xs Γ kc ks pc lv (.int y :: .int x :: st) μ g := fun H locs ls ok hl hh hS => lv_icmp_gt ok.1.1 ok.1.2.1 hdg ht (fun h => kt h H locs ls ok hl hh hS) (fun h => kf h H locs ls ok hl hh hS)
theorem l_tableOut {dflt lo hi : Int} {offs : Array Int} {len : Nat} {x : Int32} {tgt : Nat} (hdg : decode code pc = .ok (.tableswitch dflt lo hi offs, len)) (h : x.toInt < lo ∨ hi < x.toInt) (ht : (pc : Int) + dflt = (tgt : Int)) (kk : LG l D o b L xs Γ kc ks tgt lv st μ g) : LG l D o b L xs Γ kc ks pc lv (.int x :: st) μ g := fun H locs ls ok hl hh hS => lv_tableOut ok.1.1 ok.1.2.1 hdg h ht (kk H locs ls ok hl hh hS)
theorem l_tableIn {dflt lo hi : Int} {offs : Array Int} {len : Nat} {x : Int32} {off : Int} {tgt : Nat} (hdg : decode code pc = .ok (.tableswitch dflt lo hi offs, len)) (h1 : ¬ x.toInt < lo) (h2 : ¬ hi < x.toInt) (ho : offs[(x.toInt - lo).toNat]? = some off) (ht : (pc : Int) + off = (tgt : Int)) (kk : LG l D o b L xs Γ kc ks tgt lv st μ g) : LG l D o b L xs Γ kc ks pc lv (.int x :: st) μ g := fun H locs ls ok hl hh hS => lv_tableIn ok.1.1 ok.1.2.1 hdg h1 h2 ho ht (kk H locs ls ok hl hh hS)
theorem AL_b {Γ : lC} (ok : lOk D o b L xs Γ) : ¬ AL Γ.2.2.1 b := by
  have hlt := ok.1.2.2.2.2.2.2.2.1
  exact fun hge => absurd hlt (Nat.not_lt.mpr hge)
theorem l_sld {n : Nat} {x : Int32} (hx : x = nI n) (hn : n < L) (hdg : decode code pc = .ok (.iaload, 1)) (kk : LG l D o b L xs Γ kc ks (pc + 1) lv (.int (xs n) :: st) μ g) : LG l D o b L xs Γ kc ks pc lv (.int x :: .ref b :: st) μ g := fun H locs ls ok hl hh hS => by
  have hLb : L < 2 ^ 31 := by have := ok.2.1; omega
  subst hx
  refine va_sld ok.1.1 ok.1.2.1 ok.1.2.2.2.2.2.2.1 ok.1.2.2.2.2.2.2.2.1 (AL_b ok) hS (vp_in_nI hn hLb) hdg ?_
  rw [nI_clamp (Nat.lt_trans hn hLb)]
  exact kk H locs ls ok hl hh hS
theorem l_slen (hdg : decode code pc = .ok (.arraylength, 1)) (kk : LG l D o b L xs Γ kc ks (pc + 1) lv (.int (nI L) :: st) μ g) : LG l D o b L xs Γ kc ks pc lv (.ref b :: st) μ g := fun H locs ls ok hl hh hS => va_slen ok.1.1 ok.1.2.1 ok.1.2.2.2.2.2.2.1 ok.1.2.2.2.2.2.2.2.1 (AL_b ok) hS hdg (kk H locs ls ok hl hh hS)
theorem l_oload {x : Int32} (hx : x = nI 0) (hdg : decode code pc = .ok (.laload, 1)) (kk : LG l D o b L xs Γ kc ks (pc + 1) lv (.long (g 0) :: st) μ g) : LG l D o b L xs Γ kc ks pc lv (.int x :: .ref o :: st) μ g := fun H locs ls ok hl hh hS => by
  subst hx
  refine va_lald ok.1.1 ok.1.2.1 ok.2.2.1.1 hh.2 0 3 rfl rfl (vp_in_nI (N := 1) (by omega) (by decide)) hdg ?_
  exact kk H locs ls ok hl hh hS
theorem l_end {v : Int32} (hv : v = 1) (hk : kc ≤ 601024) (hs : ks ≤ 7293034) (hdg : decode code pc = .ok (.ireturn, 1)) : LG l D o b L xs Γ kc ks pc lv [.int v] μ g := fun H locs ls ok hl hh hS => by
  subst hv
  refine va_forget hS.2.2 (W.widen (k := 601024) (n := 7293034) hk hs ?_)
  exact lw_ret ok.1.1 ok.1.2.1 ok.1.2.2.1 ok.1.2.2.2.2.2.2.2.2.1 hdg
theorem l_widen {kc' ks' : Nat} (hk : kc ≤ kc') (hs : ks ≤ ks') (kk : LG l D o b L xs Γ kc' ks' pc lv st μ g) : LG l D o b L xs Γ kc ks pc lv st μ g := fun H locs ls ok hl hh hS => W.widen (k := kc') (n := ks') hk hs (kk H locs ls ok hl hh hS)
/-- behind a call of a method over the memory -/
theorem l_run {p : Program} {e : Env} {R : Room} {s : State} {m : MethodId} {args : Array Value} {below : List Frame} {meth : Method} {c : Code} {H : Heap} {locs : List Loc} {Q : State → Prop} {ls : Array Slot} {rest st0 : List Value} {a : Array Value} {post' : gP} {A : Nat → Prop} {wo : va_W}
    (hr : va_Run p l e R s m args below meth c H locs kc ks 0 0 (F0 m pc ls st0) rest (gQ D post' a) (gdom D)) (hS : va_S A s.heap H locs) (hDA : ∀ q, gdom D q → A q) (hP : va_P D.1 vwCl wo H) (hno : ∀ (k : Nat) (q : Nat × va_E), wo[k]? = some q → ¬ gdom D q.1)
    (kk : ∀ (r : Option Value) (μ' : gMem) (H1 : Heap) (locs1 : List Loc), post' r μ' → ghold D μ' H1 → va_P D.1 vwCl wo H1 → va_S A s.heap H1 locs1 → W p l e R s m args below meth c H1 locs1 kc ks Q (F0 m (pc + 3) ls (r.toList ++ rest))) : W p l e R s m args below meth c H locs kc ks Q (F0 m pc ls st0) := by
  intro T hT X
  obtain ⟨v, st₀, t, T', Lc, h0, X', hL, e1, e2, ⟨⟨r, μ', hv, hp, hh, hk⟩, hz, hk2⟩, st⟩ := hr T hT X
  cases hv
  rw [h0] at hz hk2
  have hPo : va_P D.1 vwCl wo T'.heap := hP.kept (fun k q hq => by rw [e1]; exact hk2 q.1 ((hP k q hq).lt) (hno k q hq))
  obtain ⟨t2, a1, b1⟩ := kk v μ' T'.heap (locs ++ Lc) hp (by rw [e1]; exact hh) hPo
    ⟨Nat.le_trans hS.1 (by rw [e1]; exact hz), fun q h1 h2 => by rw [e1, hk2 q (Nat.lt_of_lt_of_le h1 hS.1) (fun hq => h2 (hDA q hq))]; exact hS.2.1 q h1 h2, fun q hq => by
      rcases List.mem_append.mp hq with h | h
      · exact hS.2.2 q h
      · exact hDA _ (hL q h)⟩ T' rfl X'
  exact ⟨t2, st t2 a1, b1⟩
theorem room_ok {d' nL' : Nat} (hd : d' ≤ 1200) (hn : nL' ≤ 45) : (grm d').frames + 1 ≤ room_1.frames ∧ 8 + (nL' + 11) + (grm d').locals ≤ room_1.locals := by
  refine ⟨by show d' + 4 + 1 ≤ 2048; omega, ?_⟩
  show 8 + (nL' + 11) + (64 * d' + 256) ≤ 84000
  omega
theorem lok_w (ok : lOk D o b L xs Γ) : ∀ w ∈ gw, w.before #[Value.ref b] Γ.2.2.1 = true := fun w hw => ok.1.2.2.2.2.2.1 w (List.mem_filter.mp hw).1
theorem l_callV {idx n d' nL' k i c : Nat} {C : String} {y : MethodName} {cc' : ByteArray} {ret' : Option FieldType} {As rest : List Value} {post' : gP} (hL : gLV RL idx C y cc' nL' ret' n)
    (hc : Ctr l D d' y cc' nL' ret' (.ref (D.2.2 k i) :: As) μ post') (hd : d' ≤ 1200) (hnL : nL' ≤ 45) (hkb : kc ≤ 601024) (hsb : ks ≤ 7293034) (hi : i < gkn k) (hsh : gsh k = (0, c, (gsh k).2.2)) (hNN : vwCl[c]? = some (C, gTt c, (gsh k).2.2)) (hn : As.length = n) (hst : st = As.reverse ++ .ref (D.2.2 k i) :: rest) (hrm : (rest.map fun v => v.category).sum ≤ 8)
    (hdg : decode code pc = .ok (.invokevirtual idx, 3)) (kk : ∀ (r : Option Value) (μ' : gMem), post' r μ' → LG l D o b L xs Γ kc ks (pc + 3) lv (r.toList ++ rest) μ' g) : LG l D o b L xs Γ kc ks pc lv st μ g := by
  intro H locs ls ok hl hh hS
  obtain ⟨q, hq⟩ := gpos hi
  have he := gat (D := D) (μ := μ) hq
  have e1 : gE D μ.2.2 (μ.1 k i) (μ.2.1 k i) k i = .inr (c, (List.range (gsh k).2.2).map (gsv D μ.2.2 (μ.1 k i) (μ.2.1 k i) k i)) := by
    unfold gE
    rw [hsh]
    rfl
  rw [e1] at he
  obtain ⟨h1, h2, h3, h4, h5, h6, h7⟩ := hL
  have hts := lok_w ok
  have hB : CallW room_1 Γ.2.2.1 #[Value.ref b] RL C idx y cc' nL' ret' (gws y cc' nL' ret') (grm d') 0 0 n := ⟨callB_of n hts (gws_in h1) rfl rfl rfl (hts _ (by rw [h6]; exact h5)) (hts _ h2) h7 (room_ok hd hnL), hts _ h3, hts _ h4⟩
  refine l_run (wo := [(o, .inl (D.2.1 4, 1, .inr (.inl g)))]) (va_runV (As := As) (rest := rest) (b := D.2.2 k i) ⟨ok.1.1, ok.1.2.1, ok.1.2.2.2.1, ok.1.2.2.2.2.1, hts⟩ hc hB ⟨gblind, va_recv ok.2.2.1.1 hh.1.1 (ci := c) (q0 := q) hNN he, fun U hU hW => ⟨rfl, by rw [hU]; exact hh.1, lX.gk ok.2.2.1 ok.2.2.2.1 hU hS hW⟩⟩ rfl hn hl.1 hst (lv_room hrm) hdg ⟨hkb, hsb⟩) hS ok.2.2.2.1 hh.2 ?_ (fun r μ' H1 locs1 hp hh1 hP1 hS1 => kk r μ' hp H1 locs1 ls ok hl ⟨hh1, hP1⟩ hS1)
  intro k9 q9 hq9
  have hz : k9 < 1 := (List.getElem?_eq_some_iff.mp hq9).1
  rw [show k9 = 0 by omega] at hq9
  cases hq9
  exact ok.2.2.2.2.1
theorem lkI {f : Int32 → gMem → Prop} (kk : ∀ (v : Int32) (μ' : gMem), f v μ' → LG l D o b L xs Γ kc ks pc lv (.int v :: st) μ' g) : ∀ (r : Option Value) (μ' : gMem), pI f r μ' → LG l D o b L xs Γ kc ks pc lv (r.toList ++ st) μ' g := by
  rintro r μ' ⟨v, rfl, h⟩
  exact kk v μ' h
theorem lkJ {f : Int64 → gMem → Prop} (kk : ∀ (v : Int64) (μ' : gMem), f v μ' → LG l D o b L xs Γ kc ks pc lv (.long v :: st) μ' g) : ∀ (r : Option Value) (μ' : gMem), pJ f r μ' → LG l D o b L xs Γ kc ks pc lv (r.toList ++ st) μ' g := by
  rintro r μ' ⟨v, rfl, h⟩
  exact kk v μ' h
end LGR
/-- the law's locals -/
def lvL (D : gD) (o b : Nat) (i : Int32) : List (Nat × Value) := [(4, .int i), (0, .ref b), (1, .ref (D.2.2 9 0)), (2, .ref (D.2.2 10 0)), (3, .ref o)]
def bZ9 (x : Int32) : Int32 := if x = 0 then 0 else 1
theorem bZ9_01 (x : Int32) : bZ9 x = 0 ∨ bZ9 x = 1 := by
  unfold bZ9
  by_cases h : x = 0
  · exact Or.inl (if_pos h)
  · exact Or.inr (if_neg h)
theorem ofI_n (k : Nat) (hk : k < 6) : Int32.ofInt (k : Int) = nI k := by
  match k, hk with
  | 0, _ => rfl
  | 1, _ => rfl
  | 2, _ => rfl
  | 3, _ => rfl
  | 4, _ => rfl
  | 5, _ => rfl
section LARG
variable {l : Launch} {D : gD} {o b L : Nat} {xs : Nat → Int32} {Γ : lC} {kc ks pc j : Nat} {st : List Value} {μ : gMem} {g : Nat → Int64}
/-- one argument: script[i + k] -/
theorem l_arg (k : Nat) (hj : 6 * j + 6 ≤ L) (hk : k < 6) (h1 : decode code pc = .ok (.aload_n 0, 1)) (h2 : decode code (pc + 1) = .ok (.iload 4, 2)) (h3 : decode code (pc + 3) = .ok (.iconst (k : Int), 1)) (h4 : decode code (pc + 4) = .ok (.iadd, 1)) (h5 : decode code (pc + 5) = .ok (.iaload, 1)) (kk : LG l D o b L xs Γ kc ks (pc + 6) (lvL D o b (nI (6 * j))) (.int (xs (6 * j + k)) :: st) μ g) : LG l D o b L xs Γ kc ks pc (lvL D o b (nI (6 * j))) st μ g := by
  refine l_aload_n (x := b) h1 rfl ?_
  refine l_iload (x := nI (6 * j)) h2 rfl ?_
  refine l_iconst (nI k) h3 (ofI_n k hk) ?_
  refine l_iadd h4 ?_
  exact l_sld (n := 6 * j + k) (nI_add (6 * j) k) (by omega) h5 kk
/-- a flag: x != 0 -/
theorem l_bool {lv : List (Nat × Value)} {x : Int32} (h1 : decode code pc = .ok (.ifCond .eq 7, 3)) (h2 : decode code (pc + 3) = .ok (.iconst 1, 1)) (h3 : decode code (pc + 4) = .ok (.goto 4, 3)) (h4 : decode code (pc + 7) = .ok (.iconst 0, 1)) (kk : LG l D o b L xs Γ kc ks (pc + 8) lv (.int (bZ9 x) :: st) μ g) : LG l D o b L xs Γ kc ks pc lv (.int x :: st) μ g := by
  refine l_if_eq (tgt := pc + 7) h1 (by omega) (fun h => ?_) (fun h => ?_)
  · refine l_iconst 0 h4 rfl ?_
    rw [show bZ9 x = 0 from if_pos h] at kk
    exact kk
  · refine l_iconst 1 h2 rfl ?_
    refine l_goto (tgt := pc + 8) h3 (by omega) ?_
    rw [show bZ9 x = 1 from if_neg h] at kk
    exact kk
end LARG
