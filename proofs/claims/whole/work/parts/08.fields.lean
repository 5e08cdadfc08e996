/-! FIELDS: what a getfield or putfield of the pool's place idx of class own speaks of -/
theorem gw_l {ws : List Cond} (ps : List Nat) (h : ws = ps.filterMap (fun i => tables_1[i]?)) (hg : ws.all goodWord = true) : ∀ w ∈ ws, w ∈ gw := by
  intro w hw
  have h1 := List.all_eq_true.mp hg w hw
  rw [h] at hw
  obtain ⟨i, -, hi⟩ := List.mem_filterMap.mp hw
  exact gw_t i hi h1
def gObj (k : Nat) : Prop := gsh k = (0, k, (gsh k).2.2) ∧ k < 11 ∧ vwCl[k]? = some (gCn k, gTt k, (gsh k).2.2) ∧ (∀ w ∈ u_ws (gCn k) (gTt k) (gsh k).2.2, w ∈ gw) ∧ (∀ n, n < (gsh k).2.2 → parseFieldDescriptor (gTt k n).2.2.1 = some (gtyf k n)) ∧ (∀ a, a < (gsh k).2.2 → ∀ b, b < (gsh k).2.2 → a ≠ b → (gTt k a).2.1 ≠ (gTt k b).2.1)
def gFL (own : String) (idx k j : Nat) : Prop := gObj k ∧ j < (gsh k).2.2 ∧ Cond.fieldLink own idx (gTt k j).1 (gTt k j).2.1 (gTt k j).2.2.1 ∈ gw
def gFI (own : String) (idx k j : Nat) (ty : FieldType) : Prop := gFL own idx k j ∧ (∀ i r, grf k i j r = none) ∧ glg k j = false ∧ (gTt k j).2.2.2 = false ∧ gtyf k j = ty
def gFJ (own : String) (idx k j : Nat) : Prop := gFL own idx k j ∧ (∀ i r, grf k i j r = none) ∧ glg k j = true ∧ (gTt k j).2.2.2 = false ∧ gtyf k j = .long
theorem gsv_ref {D : gD} {r : Nat → Nat} {f : Nat → Int32} {g : Nat → Int64} {k i j k' i' : Nat} (hr : grf k i j r = some (k', i')) (h5 : ¬ (k = 5 ∧ j = 3 ∧ 2 ≤ r 2)) : gsv D r f g k i j = .ref (D.2.2 k' i') := by
  unfold gsv
  rw [hr]
  show (if k = 5 ∧ j = 3 ∧ 2 ≤ r 2 then Value.null else Value.ref (D.2.2 k' i')) = _
  rw [if_neg h5]
section GF
variable {l : Launch} {D : gD} {own : String} {cc : ByteArray} {nL d : Nat} {ret : Option FieldType} {post : gP} {Γ : gC} {pc : Nat} {lv : List (Nat × Value)} {st : List Value} {μ : gMem} {k i j index : Nat}
theorem g_gfI {ty : FieldType} (hF : gFI own index k j ty) (hi : i < gkn k) (hdg : decode cc pc = .ok (.getfield index, 3)) (kk : G l D own cc nL ret d post Γ (pc + 3) lv (.int (μ.1 k i j) :: st) μ) : G l D own cc nL ret d post Γ pc lv (.ref (D.2.2 k i) :: st) μ := by
  obtain ⟨⟨⟨o1, o2, o3, o4, o5, o6⟩, hj, hw⟩, hr, hg, -, -⟩ := hF
  exact g_get j hi o1 o2 hj o3 hw o4 (by simp [gsv, hr, hg]) hdg kk
theorem g_gfJ (hF : gFJ own index k j) (hi : i < gkn k) (hdg : decode cc pc = .ok (.getfield index, 3)) (kk : G l D own cc nL ret d post Γ (pc + 3) lv (.long (μ.2.1 k i j) :: st) μ) : G l D own cc nL ret d post Γ pc lv (.ref (D.2.2 k i) :: st) μ := by
  obtain ⟨⟨⟨o1, o2, o3, o4, o5, o6⟩, hj, hw⟩, hr, hg, -, -⟩ := hF
  exact g_get j hi o1 o2 hj o3 hw o4 (by simp [gsv, hr, hg]) hdg kk
theorem g_gfR {k' i' : Nat} (hF : gFL own index k j) (hr : grf k i j μ.2.2 = some (k', i')) (hi : i < gkn k) (hdg : decode cc pc = .ok (.getfield index, 3)) (kk : G l D own cc nL ret d post Γ (pc + 3) lv (.ref (D.2.2 k' i') :: st) μ) (h53 : ¬ (k = 5 ∧ j = 3) := by decide) : G l D own cc nL ret d post Γ pc lv (.ref (D.2.2 k i) :: st) μ := by
  obtain ⟨⟨o1, o2, o3, o4, o5, o6⟩, hj, hw⟩ := hF
  exact g_get j hi o1 o2 hj o3 hw o4 (gsv_ref hr (fun z => h53 ⟨z.1, z.2.1⟩)) hdg kk
theorem g_gfR5 (hF : gFL own index 5 3) (h2 : μ.2.2 2 < 2) (hi : i < gkn 5) (hdg : decode cc pc = .ok (.getfield index, 3)) (kk : G l D own cc nL ret d post Γ (pc + 3) lv (.ref (D.2.2 7 (μ.2.2 2)) :: st) μ) : G l D own cc nL ret d post Γ pc lv (.ref (D.2.2 5 i) :: st) μ := by
  obtain ⟨⟨o1, o2, o3, o4, o5, o6⟩, hj, hw⟩ := hF
  exact g_get 3 hi o1 o2 hj o3 hw o4 (gsv_ref (k' := 7) (i' := μ.2.2 2) rfl (fun z => absurd h2 (Nat.not_lt.mpr z.2.2))) hdg kk
theorem g_pfI {ty : FieldType} {v : Int32} (hF : gFI own index k j ty) (hi : i < gkn k) (hn : narrow ty (.int v) = .int v) (hf : fits ty (.int v) = true) (hdg : decode cc pc = .ok (.putfield index, 3)) (kk : G l D own cc nL ret d post Γ (pc + 3) lv st (gsI μ k i j v)) : G l D own cc nL ret d post Γ pc lv (.int v :: .ref (D.2.2 k i) :: st) μ := by
  obtain ⟨⟨⟨o1, o2, o3, o4, o5, o6⟩, hj, hw⟩, hr, hg, hfin, hty⟩ := hF
  exact g_put j hi o1 o2 hj o3 hw o4 o5 o6 hfin hty hn hf (fun r i => hr i r) hg hdg kk
theorem g_pfJ {v : Int64} (hF : gFJ own index k j) (hi : i < gkn k) (hdg : decode cc pc = .ok (.putfield index, 3)) (kk : G l D own cc nL ret d post Γ (pc + 3) lv st (gsL μ k i j v)) : G l D own cc nL ret d post Γ pc lv (.long v :: .ref (D.2.2 k i) :: st) μ := by
  obtain ⟨⟨⟨o1, o2, o3, o4, o5, o6⟩, hj, hw⟩, hr, hg, hfin, hty⟩ := hF
  exact g_putL j hi o1 o2 hj o3 hw o4 o5 o6 hfin hty (fun r i => hr i r) hg hdg kk
/-- a call of an object's method -/
theorem g_cV {idx n d' nL' : Nat} {y : MethodName} {cc' : ByteArray} {ret' : Option FieldType} {As rest : List Value} {post' : gP} (hL : gLV own idx (gCn k) y cc' nL' ret' n) (hO : gObj k)
    (hc : Ctr l D d' y cc' nL' ret' (.ref (D.2.2 k i) :: As) μ post') (hd : d' < d) (hnL : nL' ≤ 45) (hi : i < gkn k) (hn : As.length = n) (hst : st = As.reverse ++ .ref (D.2.2 k i) :: rest) (hrm : (rest.map fun v => v.category).sum ≤ 8)
    (hdg : decode cc pc = .ok (.invokevirtual idx, 3)) (kk : ∀ (r : Option Value) (μ' : gMem), post' r μ' → G l D own cc nL ret d post Γ (pc + 3) lv (r.toList ++ rest) μ') : G l D own cc nL ret d post Γ pc lv st μ := g_callV hL hc hd hnL hi hO.1 hO.2.2.1 hn hst hrm hdg kk
theorem nar_z {v : Int32} (h : v = 0 ∨ v = 1) : narrow .boolean (.int v) = .int v ∧ fits .boolean (.int v) = true := by rcases h with rfl | rfl <;> exact ⟨rfl, rfl⟩
end GF
