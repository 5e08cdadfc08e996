/-! CALLS -/
def gNm (y : MethodName) (n : Nat) : Prop := y.cls ≠ "java/lang/invoke/MethodHandle" ∧ y.cls ≠ "java/lang/invoke/VarHandle" ∧ (parseMethodDescriptor y.desc).map (fun d => d.parameters.length) = some n
def gLV (own : String) (idx : Nat) (C : String) (y : MethodName) (cc : ByteArray) (nL : Nat) (ret : Option FieldType) (n : Nat) : Prop :=
  Cond.code y cc nL ret ∈ gw ∧ Cond.methodLink own idx y ∈ gw ∧ Cond.instanceMethod y ∈ gw ∧ Cond.selects C y y ∈ gw ∧ Cond.initialized C ∈ gw ∧ y.cls = C ∧ gNm y n
def gLS (own : String) (idx : Nat) (y : MethodName) (cc : ByteArray) (nL : Nat) (ret : Option FieldType) (n : Nat) : Prop :=
  Cond.code y cc nL ret ∈ gw ∧ Cond.methodLink own idx y ∈ gw ∧ Cond.static y ∈ gw ∧ Cond.initialized y.cls ∈ gw ∧ gNm y n
def gLN (own : String) (idx : Nat) (y : MethodName) (host : String) (cc : ByteArray) (nL : Nat) (ret : Option FieldType) (n : Nat) : Prop :=
  Cond.code y cc nL ret ∈ gw ∧ Cond.methodLinkNest own idx y host ∈ gnest ∧ Cond.static y ∈ gw ∧ Cond.initialized y.cls ∈ gw ∧ gNm y n
theorem gblind {D : gD} {μ : gMem} {av : List Value} : FrameBlind (va_Pc av (fun U => ghold D μ U.heap ∧ gK D U)) := fun a U g mk h => ⟨h.1, h.2.1, gK.same (s := U) (U := U.calling g mk a) rfl rfl h.2.2⟩
section GCALL
variable {l : Launch} {D : gD} {own : String} {cc : ByteArray} {nL d : Nat} {ret : Option FieldType} {post : gP} {Γ : gC} {pc : Nat} {lv : List (Nat × Value)} {st : List Value} {μ : gMem}
theorem g_run {p : Program} {e : Env} {R : Room} {s : State} {m : MethodId} {args : Array Value} {below : List Frame} {meth : Method} {c : Code} {H : Heap} {locs : List Loc} {Q : State → Prop} {ls : Array Slot} {rest st0 : List Value} {a : Array Value} {post' : gP}
    (hr : va_Run p l e R s m args below meth c H locs 0 0 0 0 (F0 m pc ls st0) rest (gQ D post' a) (gdom D)) (hS : va_S (gdom D) s.heap H locs)
    (kk : ∀ (r : Option Value) (μ' : gMem) (H1 : Heap) (locs1 : List Loc), post' r μ' → ghold D μ' H1 → va_S (gdom D) s.heap H1 locs1 → W p l e R s m args below meth c H1 locs1 0 0 Q (F0 m (pc + 3) ls (r.toList ++ rest))) : W p l e R s m args below meth c H locs 0 0 Q (F0 m pc ls st0) := by
  intro T hT X
  obtain ⟨v, st₀, t, T', L, h0, X', hL, e1, e2, ⟨⟨r, μ', hv, hp, hh, hk⟩, hz, hk2⟩, st⟩ := hr T hT X
  cases hv
  rw [h0] at hz hk2
  obtain ⟨t2, a1, b1⟩ := kk v μ' T'.heap (locs ++ L) hp (by rw [e1]; exact hh)
    ⟨Nat.le_trans hS.1 (by rw [e1]; exact hz), fun q h1 h2 => by rw [e1, hk2 q (Nat.lt_of_lt_of_le h1 hS.1) h2]; exact hS.2.1 q h1 h2, fun q hq => by
      rcases List.mem_append.mp hq with h | h
      · exact hS.2.2 q h
      · exact hL q h⟩ T' rfl X'
  exact ⟨t2, st t2 a1, b1⟩
theorem grm_ok {d d' nL' : Nat} (hd : d' < d) (hn : nL' ≤ 45) : (grm d').frames + 1 ≤ (grm d).frames ∧ 8 + (nL' + 11) + (grm d').locals ≤ (grm d).locals := by
  refine ⟨by show d' + 4 + 1 ≤ d + 4; omega, ?_⟩
  show 8 + (nL' + 11) + (64 * d' + 256) ≤ 64 * d + 256
  omega
theorem g_callV {idx n d' nL' k i c : Nat} {C : String} {y : MethodName} {cc' : ByteArray} {ret' : Option FieldType} {As rest : List Value} {post' : gP} (hL : gLV own idx C y cc' nL' ret' n)
    (hc : Ctr l D d' y cc' nL' ret' (.ref (D.2.2 k i) :: As) μ post') (hd : d' < d) (hnL : nL' ≤ 45) (hi : i < gkn k) (hsh : gsh k = (0, c, (gsh k).2.2)) (hNN : vwCl[c]? = some (C, gTt c, (gsh k).2.2)) (hn : As.length = n) (hst : st = As.reverse ++ .ref (D.2.2 k i) :: rest) (hrm : (rest.map fun v => v.category).sum ≤ 8)
    (hdg : decode cc pc = .ok (.invokevirtual idx, 3)) (kk : ∀ (r : Option Value) (μ' : gMem), post' r μ' → G l D own cc nL ret d post Γ (pc + 3) lv (r.toList ++ rest) μ') : G l D own cc nL ret d post Γ pc lv st μ := by
  intro H locs ls ok hl hh hS
  obtain ⟨q, hq⟩ := gpos hi
  have he := gat (D := D) (μ := μ) hq
  have e1 : gE D μ.2.2 (μ.1 k i) (μ.2.1 k i) k i = .inr (c, (List.range (gsh k).2.2).map (gsv D μ.2.2 (μ.1 k i) (μ.2.1 k i) k i)) := by
    unfold gE
    rw [hsh]
    rfl
  rw [e1] at he
  obtain ⟨h1, h2, h3, h4, h5, h6, h7⟩ := hL
  have hB : CallW (grm d) Γ.2.2.1 Γ.2.2.2.2.1 own C idx y cc' nL' ret' (gws y cc' nL' ret') (grm d') 0 0 n := ⟨callB_of n ok.2.2.2.2.1 (gws_in h1) rfl rfl rfl (ok.2.2.2.2.1 _ (by rw [h6]; exact h5)) (ok.2.2.2.2.1 _ h2) h7 (grm_ok hd hnL), ok.2.2.2.2.1 _ h3, ok.2.2.2.2.1 _ h4⟩
  refine g_run (va_runV (As := As) (rest := rest) (b := D.2.2 k i) ⟨ok.1, ok.2.1, ok.2.2.1, ok.2.2.2.1, ok.2.2.2.2.1⟩ hc hB ⟨gblind, va_recv ok.2.2.2.2.2.1.1 hh.1 (ci := c) (q0 := q) hNN he, fun U hU hW => ⟨rfl, by rw [hU]; exact hh, gK.warm hU hS hW ok.2.2.2.2.2.1⟩⟩ rfl hn hl.1 hst (lv_room hrm) hdg ⟨Nat.zero_le _, Nat.zero_le _⟩) hS (fun r μ' H1 locs1 hp hh1 hS1 => kk r μ' hp H1 locs1 ls ok hl hh1 hS1)
theorem g_callS {idx n d' nL' : Nat} {y : MethodName} {cc' : ByteArray} {ret' : Option FieldType} {As rest : List Value} {post' : gP} (hL : gLS own idx y cc' nL' ret' n)
    (hc : Ctr l D d' y cc' nL' ret' As μ post') (hd : d' < d) (hnL : nL' ≤ 45) (hn : As.length = n) (hst : st = As.reverse ++ rest) (hrm : (rest.map fun v => v.category).sum ≤ 8)
    (hdg : decode cc pc = .ok (.invokestatic idx, 3)) (kk : ∀ (r : Option Value) (μ' : gMem), post' r μ' → G l D own cc nL ret d post Γ (pc + 3) lv (r.toList ++ rest) μ') : G l D own cc nL ret d post Γ pc lv st μ := by
  intro H locs ls ok hl hh hS
  obtain ⟨h1, h2, h3, h5, h7⟩ := hL
  have hB : CallB (grm d) Γ.2.2.1 Γ.2.2.2.2.1 own idx y cc' nL' ret' (gws y cc' nL' ret') (grm d') 0 0 n := callB_of n ok.2.2.2.2.1 (gws_in h1) rfl rfl rfl (ok.2.2.2.2.1 _ h5) (ok.2.2.2.2.1 _ h2) h7 (grm_ok hd hnL)
  refine g_run (va_runS (As := As) (rest := rest) ⟨ok.1, ok.2.1, ok.2.2.1, ok.2.2.2.1, ok.2.2.2.2.1⟩ hc ⟨hB, ok.2.2.2.2.1 _ h3⟩ ⟨gblind, fun U hU hW => ⟨rfl, by rw [hU]; exact hh, gK.warm hU hS hW ok.2.2.2.2.2.1⟩⟩ rfl hn hl.1 hst (lv_room hrm) hdg ⟨Nat.zero_le _, Nat.zero_le _⟩) hS (fun r μ' H1 locs1 hp hh1 hS1 => kk r μ' hp H1 locs1 ls ok hl hh1 hS1)
theorem g_callN {idx n d' nL' : Nat} {y : MethodName} {host : String} {cc' : ByteArray} {ret' : Option FieldType} {As rest : List Value} {post' : gP} (hL : gLN own idx y host cc' nL' ret' n)
    (hc : Ctr l D d' y cc' nL' ret' As μ post') (hd : d' < d) (hnL : nL' ≤ 45) (hn : As.length = n) (hst : st = As.reverse ++ rest) (hrm : (rest.map fun v => v.category).sum ≤ 8)
    (hdg : decode cc pc = .ok (.invokestatic idx, 3)) (kk : ∀ (r : Option Value) (μ' : gMem), post' r μ' → G l D own cc nL ret d post Γ (pc + 3) lv (r.toList ++ rest) μ') : G l D own cc nL ret d post Γ pc lv st μ := by
  intro H locs ls ok hl hh hS
  obtain ⟨h1, h2, h3, h5, h7⟩ := hL
  have hB := va_cnB (R := grm d) (rm := grm d') (mc := 0) (ms := 0) (host := host) n ok.2.2.2.2.1 (gws_in h1) rfl rfl rfl (ok.2.2.2.2.2.1.2.1 _ h2) (ok.2.2.2.2.1 _ h5) h7 (grm_ok hd hnL)
  refine g_run (va_runSN (As := As) (rest := rest) ⟨ok.1, ok.2.1, ok.2.2.1, ok.2.2.2.1, ok.2.2.2.2.1⟩ hc ⟨hB, ok.2.2.2.2.1 _ h3, trivial⟩ ⟨gblind, fun U hU hW => ⟨rfl, by rw [hU]; exact hh, gK.warm hU hS hW ok.2.2.2.2.2.1⟩⟩ rfl hn hl.1 hst (lv_room hrm) hdg ⟨Nat.zero_le _, Nat.zero_le _⟩) hS (fun r μ' H1 locs1 hp hh1 hS1 => kk r μ' hp H1 locs1 ls ok hl hh1 hS1)
end GCALL
/-- what a method may end with: an int, a long, nothing, a cell -/
def pI (f : Int32 → gMem → Prop) : gP := fun r μ => ∃ v : Int32, r = some (.int v) ∧ f v μ
def pJ (f : Int64 → gMem → Prop) : gP := fun r μ => ∃ v : Int64, r = some (.long v) ∧ f v μ
def pV (f : gMem → Prop) : gP := fun r μ => r = none ∧ f μ
def pR (D : gD) (c : Nat) (f : Nat → gMem → Prop) : gP := fun r μ => ∃ i : Nat, i < gkn c ∧ r = some (.ref (D.2.2 c i)) ∧ f i μ
def pA (D : gD) (f : Nat → Nat → gMem → Prop) : gP := fun r μ => ∃ k i : Nat, r = some (.ref (D.2.2 k i)) ∧ f k i μ
section GKK
variable {l : Launch} {D : gD} {own : String} {cc : ByteArray} {nL d : Nat} {ret : Option FieldType} {post : gP} {Γ : gC} {pc : Nat} {lv : List (Nat × Value)} {st : List Value}
theorem kI {f : Int32 → gMem → Prop} (kk : ∀ (v : Int32) (μ' : gMem), f v μ' → G l D own cc nL ret d post Γ pc lv (.int v :: st) μ') : ∀ (r : Option Value) (μ' : gMem), pI f r μ' → G l D own cc nL ret d post Γ pc lv (r.toList ++ st) μ' := by
  rintro r μ' ⟨v, rfl, h⟩
  exact kk v μ' h
theorem kJ {f : Int64 → gMem → Prop} (kk : ∀ (v : Int64) (μ' : gMem), f v μ' → G l D own cc nL ret d post Γ pc lv (.long v :: st) μ') : ∀ (r : Option Value) (μ' : gMem), pJ f r μ' → G l D own cc nL ret d post Γ pc lv (r.toList ++ st) μ' := by
  rintro r μ' ⟨v, rfl, h⟩
  exact kk v μ' h
theorem kV {f : gMem → Prop} (kk : ∀ (μ' : gMem), f μ' → G l D own cc nL ret d post Γ pc lv st μ') : ∀ (r : Option Value) (μ' : gMem), pV f r μ' → G l D own cc nL ret d post Γ pc lv (r.toList ++ st) μ' := by
  rintro r μ' ⟨rfl, h⟩
  exact kk μ' h
theorem kR {c : Nat} {f : Nat → gMem → Prop} (kk : ∀ (i : Nat) (μ' : gMem), i < gkn c → f i μ' → G l D own cc nL ret d post Γ pc lv (.ref (D.2.2 c i) :: st) μ') : ∀ (r : Option Value) (μ' : gMem), pR D c f r μ' → G l D own cc nL ret d post Γ pc lv (r.toList ++ st) μ' := by
  rintro r μ' ⟨i, hi, rfl, h⟩
  exact kk i μ' hi h
theorem kA {f : Nat → Nat → gMem → Prop} (kk : ∀ (k i : Nat) (μ' : gMem), f k i μ' → G l D own cc nL ret d post Γ pc lv (.ref (D.2.2 k i) :: st) μ') : ∀ (r : Option Value) (μ' : gMem), pA D f r μ' → G l D own cc nL ret d post Γ pc lv (r.toList ++ st) μ' := by
  rintro r μ' ⟨k, i, rfl, h⟩
  exact kk k i μ' h
end GKK
