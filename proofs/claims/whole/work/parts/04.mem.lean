/-! THE MEMORY OVER THE MACHINE'S HEAP -/
def u3 {α : Type} (f : Nat → Nat → Nat → α) (k i j : Nat) (v : α) : Nat → Nat → Nat → α := fun k' i' j' => if k' = k ∧ i' = i ∧ j' = j then v else f k' i' j'
theorem u3_s {α : Type} (f : Nat → Nat → Nat → α) (k i j : Nat) (v : α) : u3 f k i j v k i j = v := by simp [u3]
theorem u3_row {α : Type} (f : Nat → Nat → Nat → α) (k i j : Nat) (v : α) {k' i' : Nat} (h : ¬ (k' = k ∧ i' = i)) : u3 f k i j v k' i' = f k' i' := by
  funext q
  simp only [u3]
  rw [if_neg (fun z => h ⟨z.1, z.2.1⟩)]
def gsI (μ : gMem) (k i j : Nat) (v : Int32) : gMem := (u3 μ.1 k i j v, μ.2)
def gsL (μ : gMem) (k i j : Nat) (v : Int64) : gMem := (μ.1, u3 μ.2.1 k i j v, μ.2.2)
def gsR (μ : gMem) (n v : Nat) : gMem := (μ.1, μ.2.1, fun q => if q = n then v else μ.2.2 q)
/-- the value of an object's slot (the reader's told is null until the first text: r 2 is 2 then) -/
def gsv (D : gD) (r : Nat → Nat) (f : Nat → Int32) (g : Nat → Int64) (k i j : Nat) : Value := match grf k i j r with
  | some q => if k = 5 ∧ j = 3 ∧ 2 ≤ r 2 then .null else .ref (D.2.2 q.1 q.2)
  | none => if glg k j = true then .long (g j) else .int (f j)
/-- what a cell holds -/
def gE (D : gD) (r : Nat → Nat) (f : Nat → Int32) (g : Nat → Int64) (k i : Nat) : va_E := match (gsh k).1 with
  | 0 => .inr ((gsh k).2.1, (List.range (gsh k).2.2).map (gsv D r f g k i))
  | 4 => .inl (D.2.1 4, (gsh k).2.1, .inr (.inl g))
  | 5 => .inl (D.2.1 5, (gsh k).2.1, .inr (.inr (.inr (.inr (fun j => some (D.2.2 4 (5 * i + j)))))))
  | t => .inl (D.2.1 t, (gsh k).2.1, .inl f)
def gcells : List (Nat × Nat) := gkinds.flatMap (fun k => (List.range (gkn k)).map (fun i => (k, i)))
def gwl (D : gD) (μ : gMem) : va_W := gcells.map (fun q => (D.2.2 q.1 q.2, gE D μ.2.2 (μ.1 q.1 q.2) (μ.2.1 q.1 q.2) q.1 q.2))
def gdom (D : gD) : Nat → Prop := fun a => ∃ k i, i < gkn k ∧ a = D.2.2 k i
def ghold (D : gD) (μ : gMem) (H : Heap) : Prop := va_P D.1 vwCl (gwl D μ) H ∧ va_D (gdom D) (gwl D μ)
def gtys (D : gD) : List (ClassId × FieldType) := [(D.2.1 1, .int), (D.2.1 2, .byte), (D.2.1 3, .boolean), (D.2.1 4, .long), (D.2.1 5, .object "WristGoal$Person")]
theorem gkn_mem {k : Nat} (h : 0 < gkn k) : k ∈ gkinds := by
  revert h
  unfold gkn
  split <;> first | (intro _; decide) | (intro h; exact absurd h (by decide))
theorem gpos {k i : Nat} (hi : i < gkn k) : ∃ q : Nat, gcells[q]? = some (k, i) := by
  have h1 : k ∈ gkinds := gkn_mem (Nat.lt_of_le_of_lt (Nat.zero_le i) hi)
  have h2 : (k, i) ∈ gcells := List.mem_flatMap.mpr ⟨k, h1, List.mem_map.mpr ⟨i, List.mem_range.mpr hi, rfl⟩⟩
  exact List.getElem?_of_mem h2
theorem gcells_ok {k i q : Nat} (hq : gcells[q]? = some (k, i)) : i < gkn k := by
  obtain ⟨k', -, h⟩ := List.mem_flatMap.mp (List.mem_of_getElem? hq)
  obtain ⟨i', h1, h2⟩ := List.mem_map.mp h
  cases h2
  exact List.mem_range.mp h1
theorem gcells_nd : gcells.Nodup := by decide +kernel
theorem gat {D : gD} {μ : gMem} {k i q : Nat} (hq : gcells[q]? = some (k, i)) : (gwl D μ)[q]? = some (D.2.2 k i, gE D μ.2.2 (μ.1 k i) (μ.2.1 k i) k i) := by
  simp [gwl, hq]
theorem gset {D : gD} {μ μ' : gMem} {k i q : Nat} {e : va_E} (hq : gcells[q]? = some (k, i)) (h1 : gE D μ'.2.2 (μ'.1 k i) (μ'.2.1 k i) k i = e)
    (h2 : ∀ k' i', i' < gkn k' → ¬ (k' = k ∧ i' = i) → gE D μ'.2.2 (μ'.1 k' i') (μ'.2.1 k' i') k' i' = gE D μ.2.2 (μ.1 k' i') (μ.2.1 k' i') k' i') : (gwl D μ).set q (D.2.2 k i, e) = gwl D μ' := by
  have hl : q < gcells.length := (List.getElem?_eq_some_iff.mp hq).1
  have hl2 : q < (gwl D μ).length := by simp [gwl]; exact hl
  apply List.ext_getElem?
  intro n
  by_cases hn : n = q
  · subst hn
    rw [List.getElem?_set_self hl2, gat hq, h1]
  · rw [List.getElem?_set_ne (Ne.symm hn)]
    cases hc : gcells[n]? with
    | none => simp [gwl, hc]
    | some z =>
      obtain ⟨k', i'⟩ := z
      rw [gat hc, gat hc, h2 k' i' (gcells_ok hc) ?_]
      rintro ⟨rfl, rfl⟩
      exact hn ((List.getElem?_inj hl gcells_nd).mp (hq.trans hc.symm)).symm
theorem gset_map {α : Type} (N j : Nat) (f g : Nat → α) (v : α) (hj : g j = v) (ho : ∀ n, n ≠ j → g n = f n) : ((List.range N).map f).set j v = (List.range N).map g := by
  apply List.ext_getElem?
  intro n
  by_cases hn : n = j
  · subst hn
    by_cases hl : n < N
    · rw [List.getElem?_set_self (by simpa using hl)]
      simp [hl, hj]
    · rw [List.getElem?_eq_none (by simpa using hl), List.getElem?_eq_none (by simpa using hl)]
  · rw [List.getElem?_set_ne (Ne.symm hn)]
    by_cases hl : n < N
    · simp [hl, ho n hn]
    · rw [List.getElem?_eq_none (by simpa using hl), List.getElem?_eq_none (by simpa using hl)]
theorem gcls {c : Nat} (h : c < 11) : ∃ N, vwCl[c]? = some (gCn c, gTt c, N) := by
  match c, h with
  | 0, _ => exact ⟨_, rfl⟩
  | 1, _ => exact ⟨_, rfl⟩
  | 2, _ => exact ⟨_, rfl⟩
  | 3, _ => exact ⟨_, rfl⟩
  | 4, _ => exact ⟨_, rfl⟩
  | 5, _ => exact ⟨_, rfl⟩
  | 6, _ => exact ⟨_, rfl⟩
  | 7, _ => exact ⟨_, rfl⟩
  | 8, _ => exact ⟨_, rfl⟩
  | 9, _ => exact ⟨_, rfl⟩
  | 10, _ => exact ⟨_, rfl⟩
/-! words -/
def gw : List Cond := lw_tbl.filter goodWord
theorem gw_t {w : Cond} (i : Nat) (h : tables_1[i]? = some w) (hg : goodWord w = true) : w ∈ gw := List.mem_filter.mpr ⟨List.mem_append_right _ (List.mem_of_getElem? h), hg⟩
theorem gw_s {q : MethodName × Nat} (h : q ∈ lw_privs) : Cond.selects q.1.cls q.1 q.1 ∈ gw := List.mem_filter.mpr ⟨List.mem_append_left _ (List.mem_map.mpr ⟨q, h, rfl⟩), rfl⟩
theorem gw_good {w : Cond} (h : w ∈ gw) : (w.onTables && w.keeps) = true ∨ ∃ ty, w = .arrayClass ty := good_of_word (List.mem_filter.mp h).2
def gws (y : MethodName) (cc : ByteArray) (nL : Nat) (ret : Option FieldType) : List Cond := .code y cc nL ret :: gw
theorem gws_in {y : MethodName} {cc : ByteArray} {nL : Nat} {ret : Option FieldType} (h : Cond.code y cc nL ret ∈ gw) : GoodIn gw (gws y cc nL ret) := by
  intro w hw
  rcases List.mem_cons.mp hw with rfl | hw
  · exact ⟨h, gw_good h⟩
  · exact ⟨hw, gw_good hw⟩
