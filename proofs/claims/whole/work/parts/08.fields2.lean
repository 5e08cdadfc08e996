/-! Math, arraycopy, the references that move -/
def imax (x y : Int32) : Int32 := if x < y then y else x
def imin (x y : Int32) : Int32 := if y < x then y else x
def jmax (x y : Int64) : Int64 := if y < x then x else y
def jmin (x y : Int64) : Int64 := if y < x then y else x
def jabs (x : Int64) : Int64 := if 0 < x then x else -x
def gcpy (μ : gMem) (ks is us kd id ud n : Nat) : gMem := (fun k i j => if k = kd ∧ i = id ∧ ud ≤ j ∧ j < ud + n then μ.1 ks is (us + (j - ud)) else μ.1 k i j, μ.2)
def gLM (own : String) (idx : Nat) (y : MethodName) (cd : ByteArray) (nL : Nat) (ret : Option FieldType) : Prop := Cond.methodLink own idx y ∈ gw ∧ Cond.static y ∈ gw ∧ Cond.initialized "java/lang/Math" ∈ gw ∧ Cond.code y cd nL ret ∈ gw
def gLA (own : String) (idx : Nat) : Prop := Cond.methodLink own idx arraycopyName ∈ gw ∧ Cond.native arraycopyName ∈ gw ∧ Cond.static arraycopyName ∈ gw ∧ Cond.initialized "java/lang/System" ∈ gw
section GM
variable {l : Launch} {D : gD} {own : String} {cc : ByteArray} {nL d : Nat} {ret : Option FieldType} {post : gP} {Γ : gC} {pc : Nat} {lv : List (Nat × Value)} {st : List Value} {μ : gMem} {index : Nat}
theorem g_mmax {x y : Int32} (hd : 0 < d) (hL : gLM own index Lib.Math.max.name Lib.Math.max.code 2 (some .int)) (hrm : (st.map fun v => v.category).sum ≤ 8) (hdg : decode cc pc = .ok (.invokestatic index, 3)) (kk : G l D own cc nL ret d post Γ (pc + 3) lv (.int (imax x y) :: st) μ) : G l D own cc nL ret d post Γ pc lv (.int y :: .int x :: st) μ := fun H locs ls ok hl hh hS =>
  va_mmax (R := grm d) ok.1 ok.2.1 (ok.2.2.1.trans hl.1.symm) ok.2.2.2.1 (ok.2.2.2.2.1 _ hL.1) (ok.2.2.2.2.1 _ hL.2.1) (ok.2.2.2.2.1 _ hL.2.2.1) (ok.2.2.2.2.1 _ hL.2.2.2) (by show 1 ≤ d + 4; omega) (by show _ ≤ 64 * d + 256; omega) (Nat.zero_le _) (Nat.zero_le _) hdg (kk H locs ls ok hl hh hS)
theorem g_mmin {x y : Int32} (hd : 0 < d) (hL : gLM own index Lib.Math.min.name Lib.Math.min.code 2 (some .int)) (hrm : (st.map fun v => v.category).sum ≤ 8) (hdg : decode cc pc = .ok (.invokestatic index, 3)) (kk : G l D own cc nL ret d post Γ (pc + 3) lv (.int (imin x y) :: st) μ) : G l D own cc nL ret d post Γ pc lv (.int y :: .int x :: st) μ := fun H locs ls ok hl hh hS =>
  va_mmin (R := grm d) ok.1 ok.2.1 (ok.2.2.1.trans hl.1.symm) ok.2.2.2.1 (ok.2.2.2.2.1 _ hL.1) (ok.2.2.2.2.1 _ hL.2.1) (ok.2.2.2.2.1 _ hL.2.2.1) (ok.2.2.2.2.1 _ hL.2.2.2) (by show 1 ≤ d + 4; omega) (by show _ ≤ 64 * d + 256; omega) (Nat.zero_le _) (Nat.zero_le _) hdg (kk H locs ls ok hl hh hS)
theorem g_mmax_long {x y : Int64} (hd : 0 < d) (hL : gLM own index Lib.MathLoose.max_long.x Lib.MathLoose.max_long.code 4 (some .long)) (hrm : (st.map fun v => v.category).sum ≤ 8) (hdg : decode cc pc = .ok (.invokestatic index, 3)) (kk : G l D own cc nL ret d post Γ (pc + 3) lv (.long (jmax x y) :: st) μ) : G l D own cc nL ret d post Γ pc lv (.long y :: .long x :: st) μ := fun H locs ls ok hl hh hS =>
  va_mmax_long (R := grm d) ok.1 ok.2.1 (ok.2.2.1.trans hl.1.symm) ok.2.2.2.1 (ok.2.2.2.2.1 _ hL.1) (ok.2.2.2.2.1 _ hL.2.1) (ok.2.2.2.2.1 _ hL.2.2.1) (ok.2.2.2.2.1 _ hL.2.2.2) (by show 1 ≤ d + 4; omega) (by show _ ≤ 64 * d + 256; omega) (Nat.zero_le _) (Nat.zero_le _) hdg (kk H locs ls ok hl hh hS)
theorem g_mmin_long {x y : Int64} (hd : 0 < d) (hL : gLM own index Lib.MathLoose.min_long.x Lib.MathLoose.min_long.code 4 (some .long)) (hrm : (st.map fun v => v.category).sum ≤ 8) (hdg : decode cc pc = .ok (.invokestatic index, 3)) (kk : G l D own cc nL ret d post Γ (pc + 3) lv (.long (jmin x y) :: st) μ) : G l D own cc nL ret d post Γ pc lv (.long y :: .long x :: st) μ := fun H locs ls ok hl hh hS =>
  va_mmin_long (R := grm d) ok.1 ok.2.1 (ok.2.2.1.trans hl.1.symm) ok.2.2.2.1 (ok.2.2.2.2.1 _ hL.1) (ok.2.2.2.2.1 _ hL.2.1) (ok.2.2.2.2.1 _ hL.2.2.1) (ok.2.2.2.2.1 _ hL.2.2.2) (by show 1 ≤ d + 4; omega) (by show _ ≤ 64 * d + 256; omega) (Nat.zero_le _) (Nat.zero_le _) hdg (kk H locs ls ok hl hh hS)
theorem g_mabs_long {x : Int64} (hd : 0 < d) (hL : gLM own index Lib.MathLoose.abs_long.x Lib.MathLoose.abs_long.code 2 (some .long)) (hrm : (st.map fun v => v.category).sum ≤ 8) (hdg : decode cc pc = .ok (.invokestatic index, 3)) (kk : G l D own cc nL ret d post Γ (pc + 3) lv (.long (jabs x) :: st) μ) : G l D own cc nL ret d post Γ pc lv (.long x :: st) μ := fun H locs ls ok hl hh hS =>
  va_mabs_long (R := grm d) ok.1 ok.2.1 (ok.2.2.1.trans hl.1.symm) ok.2.2.2.1 (ok.2.2.2.2.1 _ hL.1) (ok.2.2.2.2.1 _ hL.2.1) (ok.2.2.2.2.1 _ hL.2.2.1) (ok.2.2.2.2.1 _ hL.2.2.2) (by show 1 ≤ d + 4; omega) (by show _ ≤ 64 * d + 256; omega) (Nat.zero_le _) (Nat.zero_le _) hdg (kk H locs ls ok hl hh hS)
/-- arraycopy between two int arrays -/
theorem g_copy {ks is kd id ns nd : Nat} {sp dp nn : Int32} (hd : 0 < d) (us ud n : Nat) (hi : is < gkn ks) (hi2 : id < gkn kd) (hsh : gsh ks = (1, ns, 0)) (hsh2 : gsh kd = (1, nd, 0)) (h4 : us + n ≤ ns) (h5 : ud + n ≤ nd) (hb1 : ns < 2 ^ 31) (hb2 : nd < 2 ^ 31) (hb3 : n < 2 ^ 31) (e1 : sp = nI us) (e2 : dp = nI ud) (e3 : nn = nI n) (hL : gLA own index) (hrm : (st.map fun v => v.category).sum ≤ 8)
    (hdg : decode cc pc = .ok (.invokestatic index, 3)) (kk : G l D own cc nL ret d post Γ (pc + 3) lv st (gcpy μ ks is us kd id ud n)) : G l D own cc nL ret d post Γ pc lv (.int nn :: .int dp :: .ref (D.2.2 kd id) :: .int sp :: .ref (D.2.2 ks is) :: st) μ := by
  intro H locs ls ok hl hh hS
  obtain ⟨q, hq⟩ := gpos hi
  obtain ⟨q2, hq2⟩ := gpos hi2
  have he := gat (D := D) (μ := μ) hq
  have he2 := gat (D := D) (μ := μ) hq2
  have e0 : ∀ (μ : gMem) (k i n : Nat), gsh k = (1, n, 0) → gE D μ.2.2 (μ.1 k i) (μ.2.1 k i) k i = .inl (D.2.1 1, n, .inl (μ.1 k i)) := fun μ k i n h => by
    unfold gE
    rw [h]
    rfl
  rw [e0 μ _ _ _ hsh] at he
  rw [e0 μ _ _ _ hsh2] at he2
  subst e1; subst e2; subst e3
  have c1 : (nI us).toNatClampNeg = us := nI_clamp (by omega)
  have c2 : (nI ud).toNatClampNeg = ud := nI_clamp (by omega)
  have c3 : (nI n).toNatClampNeg = n := nI_clamp (by omega)
  refine va_copyi ok.1 ok.2.1 (ok.2.2.1.trans hl.1.symm) ok.2.2.2.1 (ok.2.2.2.2.1 _ hL.1) (ok.2.2.2.2.1 _ hL.2.1) (ok.2.2.2.2.1 _ hL.2.2.1) (ok.2.2.2.2.1 _ hL.2.2.2) ok.2.2.2.2.2.1.1 hh.1 hh.2 hS q q2 0 0 he he2 rfl rfl rfl (nI_pos (by omega)) (nI_pos (by omega)) (nI_pos (by omega)) (by rw [c1, c3]; exact h4) (by rw [c2, c3]; exact h5) (fun _ _ => rfl) (by show 1 ≤ d + 4; omega) (by
      have e9 : nativeFrameWords "java/lang/System" "arraycopy" 5 + 11 ≤ 40 := by decide +kernel
      show _ ≤ 64 * d + 256
      omega) hdg (fun H1 locs1 hP hD hS1 => ?_)
  rw [c1, c2, c3] at hP hD
  refine kk H1 locs1 ls ok hl (ghold_set hq2 ?_ ?_ hP hD) hS1
  · rw [e0 (gcpy μ ks is us kd id ud n) _ _ _ hsh2]
    have e9 : (gcpy μ ks is us kd id ud n).1 kd id = va_cpy (μ.1 ks is) (μ.1 kd id) us ud n := by
      funext z
      simp only [gcpy, va_cpy, true_and]
    rw [e9]
  · intro k' i' _ h
    have e9 : (gcpy μ ks is us kd id ud n).1 k' i' = μ.1 k' i' := by
      funext z
      simp only [gcpy]
      rw [if_neg (fun z => h ⟨z.1, z.2.1⟩)]
    rw [e9]
    rfl
/-- which references move: the object's kind, the slot, the place in the memory -/
def gRf (k j n : Nat) : Prop := (k = 9 ∧ j = 2 ∧ n = 0) ∨ (k = 9 ∧ j = 3 ∧ n = 1) ∨ (k = 5 ∧ j = 3 ∧ n = 2)
theorem grf_off {k i j : Nat} {r r' : Nat → Nat} (h : ∀ n, gRf k j n → r n = r' n) : grf k i j r = grf k i j r' := by
  unfold grf
  split <;> first | rfl | (split <;> first | rfl | (rw [h]; simp [gRf]))
theorem gsv_off {D : gD} {r r' : Nat → Nat} {f : Nat → Int32} {g : Nat → Int64} {k i j : Nat} (h : ∀ n, gRf k j n → r n = r' n) : gsv D r f g k i j = gsv D r' f g k i j := by
  unfold gsv
  rw [grf_off h]
  cases hq : grf k i j r' with
  | none => rfl
  | some q =>
    show (if k = 5 ∧ j = 3 ∧ 2 ≤ r 2 then Value.null else Value.ref (D.2.2 q.1 q.2)) = (if k = 5 ∧ j = 3 ∧ 2 ≤ r' 2 then Value.null else Value.ref (D.2.2 q.1 q.2))
    by_cases hz : k = 5 ∧ j = 3
    · rw [h 2 (Or.inr (Or.inr ⟨hz.1, hz.2, rfl⟩))]
    · rw [if_neg (fun z => hz ⟨z.1, z.2.1⟩), if_neg (fun z => hz ⟨z.1, z.2.1⟩)]
theorem g_pfR {k i j n v : Nat} (hF : gFL own index k j) (hR : gRf k j n) (hi : i < gkn k) (hv : v < 2) (hdg : decode cc pc = .ok (.putfield index, 3)) (kk : G l D own cc nL ret d post Γ (pc + 3) lv st (gsR μ n v)) : G l D own cc nL ret d post Γ pc lv (.ref (D.2.2 7 v) :: .ref (D.2.2 k i) :: st) μ := by
  obtain ⟨⟨o1, o2, o3, o4, o5, o6⟩, hN, hw⟩ := hF
  intro H locs ls ok hl hh hS
  obtain ⟨q, hq⟩ := gpos hi
  have he := gat (D := D) (μ := μ) hq
  have e0 : ∀ μ : gMem, gE D μ.2.2 (μ.1 k i) (μ.2.1 k i) k i = .inr (k, (List.range (gsh k).2.2).map (gsv D μ.2.2 (μ.1 k i) (μ.2.1 k i) k i)) := fun μ => by
    unfold gE
    rw [o1]
    rfl
  rw [e0 μ] at he
  have hfin : (gTt k j).2.2.2 = false ∧ gtyf k j = .object "WristGoal$Told" := by
    rcases hR with ⟨rfl, rfl, rfl⟩ | ⟨rfl, rfl, rfl⟩ | ⟨rfl, rfl, rfl⟩ <;> exact ⟨rfl, rfl⟩
  refine va_put (D := D.1) (ci := k) (v := .ref (D.2.2 7 v)) (ty := .object "WristGoal$Told") (C := gCn k) (T := gTt k) (N := (gsh k).2.2) ok.1 ok.2.1 ok.2.2.2.2.1 o4 (gtyf k) o5 o6 ok.2.2.2.1 ok.2.2.2.2.2.1.1 hh.1 hh.2 hS q he o3 j hN (ok.2.2.2.2.1 _ hw) (fun _ h9 => h9) hfin.1 (by rw [o5 j hN, hfin.2]) rfl rfl (by simp [hN]) hdg (fun H1 locs1 hP hD hS1 => ?_)
  refine kk H1 locs1 ls ok hl (ghold_set hq ?_ ?_ hP hD) hS1
  · rw [e0 (gsR μ n v), gset_map]
    · rcases hR with ⟨rfl, rfl, rfl⟩ | ⟨rfl, rfl, rfl⟩ | ⟨rfl, rfl, rfl⟩
      · rfl
      · rfl
      · exact gsv_ref (k' := 7) (i' := v) rfl (fun z => absurd hv (Nat.not_lt.mpr (show 2 ≤ v from z.2.2)))
    · intro m hm
      show gsv D (gsR μ n v).2.2 (μ.1 k i) (μ.2.1 k i) k i m = gsv D μ.2.2 (μ.1 k i) (μ.2.1 k i) k i m
      refine gsv_off (fun n' hn' => ?_)
      show (if n' = n then v else μ.2.2 n') = μ.2.2 n'
      rw [if_neg]
      intro e
      subst e
      rcases hR with ⟨rfl, rfl, rfl⟩ | ⟨rfl, rfl, rfl⟩ | ⟨rfl, rfl, rfl⟩ <;> rcases hn' with ⟨h1, h2, h3⟩ | ⟨h1, h2, h3⟩ | ⟨h1, h2, h3⟩ <;> omega
  · intro k' i' hi' h
    have e9 : ∀ m, gsv D (gsR μ n v).2.2 (μ.1 k' i') (μ.2.1 k' i') k' i' m = gsv D μ.2.2 (μ.1 k' i') (μ.2.1 k' i') k' i' m := by
      intro m
      refine gsv_off (fun n' hn' => ?_)
      show (if n' = n then v else μ.2.2 n') = μ.2.2 n'
      rw [if_neg]
      intro e
      subst e
      have hk : ∀ z, z < gkn 9 → z = 0 := fun z hz => Nat.lt_one_iff.mp hz
      have hk5 : ∀ z, z < gkn 5 → z = 0 := fun z hz => Nat.lt_one_iff.mp hz
      rcases hR with ⟨rfl, rfl, rfl⟩ | ⟨rfl, rfl, rfl⟩ | ⟨rfl, rfl, rfl⟩ <;> rcases hn' with ⟨h1, h2, h3⟩ | ⟨h1, h2, h3⟩ | ⟨h1, h2, h3⟩ <;> first | omega | (subst h1; first | exact h ⟨rfl, (hk _ hi').trans (hk _ hi).symm⟩ | exact h ⟨rfl, (hk5 _ hi').trans (hk5 _ hi).symm⟩)
    show gE D (gsR μ n v).2.2 (μ.1 k' i') (μ.2.1 k' i') k' i' = _
    unfold gE
    rw [show gsv D (gsR μ n v).2.2 (μ.1 k' i') (μ.2.1 k' i') k' i' = gsv D μ.2.2 (μ.1 k' i') (μ.2.1 k' i') k' i' from funext e9]
end GM
