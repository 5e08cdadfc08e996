/-! what is asked of what stands: named, fault, has, deed, times, law, count -/
def fndL (f : Nat → Int32) (x : Int32) : Nat → Nat → Int32
  | 0, _ => -1
  | c + 1, i => if f i = x then nI i else fndL f x c (i + 1)
theorem fndL_cong {f g : Nat → Int32} {x : Int32} : ∀ (c i : Nat), (∀ k, i ≤ k → k < i + c → f k = g k) → fndL f x c i = fndL g x c i := by
  intro c
  induction c with
  | zero => intro i _; rfl
  | succ c ih =>
    intro i h
    rw [fndL, fndL, h i (by omega) (by omega), ih (i + 1) (fun k a b => h k (by omega) (by omega))]
theorem fndL_rng {f : Nat → Int32} {x : Int32} : ∀ (c i : Nat), fndL f x c i = -1 ∨ ∃ k, i ≤ k ∧ k < i + c ∧ fndL f x c i = nI k ∧ f k = x := by
  intro c
  induction c with
  | zero => intro i; exact Or.inl rfl
  | succ c ih =>
    intro i
    rw [fndL]
    by_cases h : f i = x
    · rw [if_pos h]
      exact Or.inr ⟨i, by omega, by omega, rfl, h⟩
    · rw [if_neg h]
      rcases ih (i + 1) with w | ⟨k, a, b, e, ex⟩
      · exact Or.inl w
      · exact Or.inr ⟨k, by omega, by omega, e, ex⟩
def namF (men n : Nat) (f g : Nat → Int32) (x1 x2 : Int32) : Int32 := if x1 = 0 then fndL f x2 men 0 else if x1 = 1 then fndL g x2 n 0 else -1
def fauF (a b x1 : Int32) : Int32 := if x1 = 0 then a else if x1 = 1 then b else -1
def hasF (A : wEnv) (S : pplS) (x1 x2 : Int32) : Int32 := if isM (eMen A) x1 then (if x2 = 0 then S (ix x1) 10 else if x2 = 1 then S (ix x1) 9 else if x2 = 2 then S (ix x1) 7 else if x2 = 3 then S (ix x1) 8 else -1) else -1
def dedF (n : Nat) (f g h : Nat → Int32) (x1 x2 : Int32) : Int32 := if isM n x1 then (if x2 = 0 then f (ix x1) else if x2 = 1 then g (ix x1) else if x2 = 2 then h (ix x1) else -1) else -1
def timF (men n : Nat) (R : Nat → Nat → Int32) (x1 x2 : Int32) : Int32 := if isM men x1 ∧ isM n x2 then R (ix x1) (ix x2) else -1
/-- how far one is behind -/
def bhF (A : wEnv) (S : pplS) (p : Nat) : Int32 := mxF (fun k => S k 4) (-1) (eMen A) 0 0 - S p 4
def oJ (e : Option Int64) : Int64 := match e with | some z => z | none => -9223372036854775808
def lawF (A : wEnv) (S : pplS) (dy : Nat) (x1 x2 : Int32) : Int64 := if inR x1 0 2 ∧ isM (eMen A) x2 then oJ (evR A.1.1 A.1.2.1 A.1.2.2 (ix x1) (nms (S (ix x2) 1) (S (ix x2) 0) (dC0 (S (ix x2) 10) (S (ix x2) 1) (ePc A (ix x2)) (S (ix x2) 9)) (S (ix x2) 2) (bhF A S (ix x2)) (nI dy))) else -9223372036854775808
section G1
variable {l : Launch} {D : gD} {d : Nat} {μ : gMem}
theorem placeOf_loop {Γ : gC} {q : Int32 → gMem → Prop} {x0 v : Int32} {k1 i1 L m : Nat} (hk1 : gsh k1 = (1, (gsh k1).2.1, 0)) (hi1 : i1 < gkn k1) (hL : (gsh k1).2.1 = L) (hL2 : L < 2 ^ 31) (hm : m ≤ L) (hq : q v μ) :
    ∀ (c i : Nat), i + c = m → fndL (μ.1 k1 i1) x0 c i = v → pt_X9_placeOf_1 l D d q Γ x0 k1 i1 (nI m) (nI i) μ := by
  intro c
  induction c with
  | zero =>
    intro i hi hv
    refine bl_X9_placeOf_1 hk1 hi1 ⟨fun _ => ?_, fun z => absurd (nI_le (by omega) (by omega)) z⟩
    rw [show (-1 : Int32) = v from hv]
    exact hq
  | succ c ih =>
    intro i hi hv
    rw [fndL] at hv
    refine bl_X9_placeOf_1 hk1 hi1 ⟨fun z => absurd z (nI_ge (by omega) (by omega)), fun _ => ?_⟩
    rw [hL]
    refine ⟨fun z => absurd z (nI_ge (by omega) (by omega)), fun _ => ⟨i, by omega, hL2, rfl, fun z => ?_, fun z => ?_⟩⟩
    · rintro _ rfl
      rw [nI_1]
      rw [if_neg z] at hv
      exact ih (i + 1) (by omega) hv
    · rw [if_pos z] at hv
      rw [hv]
      exact hq
theorem c_X9_placeOf {x0 x2 : Int32} {k1 i1 L m : Nat} (hx : x2 = nI m) (hk1 : gsh k1 = (1, (gsh k1).2.1, 0)) (hi1 : i1 < gkn k1) (hL : (gsh k1).2.1 = L) (hL2 : L < 2 ^ 31) (hm : m ≤ L) : Ctr l D d yX9_placeOf cX9_placeOf 4 (some .int) [.int x0, .ref (D.2.2 k1 i1), .int x2] μ (pI (fun v μ' => v = fndL (μ.1 k1 i1) x0 m 0 ∧ μ' = μ)) := by
  subst hx
  refine en_X9_placeOf (fun Γ => bl_X9_placeOf_0 hk1 hi1 ?_)
  rintro _ rfl
  exact placeOf_loop (v := fndL (μ.1 k1 i1) x0 m 0) hk1 hi1 hL hL2 hm ⟨rfl, rfl⟩ m 0 (by omega) rfl
theorem found_loop {Γ : gC} {q : Int32 → gMem → Prop} {x3 v : Int32} {k0 i0 L m a : Nat} (hk1 : gsh k0 = (1, (gsh k0).2.1, 0)) (hi1 : i0 < gkn k0) (hL : (gsh k0).2.1 = L) (hL2 : L < 2 ^ 31) (hm : a + m ≤ L) (hq : q v μ) :
    ∀ (c i : Nat), i + c = m → fndL (fun z => μ.1 k0 i0 (a + z)) x3 c i = v → pt_X10_found_1 l D d q Γ k0 i0 (nI a) (nI m) x3 (nI i) μ := by
  intro c
  induction c with
  | zero =>
    intro i hi hv
    refine bl_X10_found_1 hk1 hi1 ⟨fun _ => ?_, fun z => absurd (nI_le (by omega) (by omega)) z⟩
    rw [show (-1 : Int32) = v from hv]
    exact hq
  | succ c ih =>
    intro i hi hv
    rw [fndL] at hv
    refine bl_X10_found_1 hk1 hi1 ⟨fun z => absurd z (nI_ge (by omega) (by omega)), fun _ => ⟨a + i, by omega, by omega, nI_add a i, fun z => ?_, fun z => ?_⟩⟩
    · rintro _ rfl
      rw [nI_1]
      rw [if_neg z] at hv
      exact ih (i + 1) (by omega) hv
    · rw [if_pos z] at hv
      rw [hv]
      exact hq
theorem c_X10_found {x1 x2 x3 : Int32} {k0 i0 L m a : Nat} (h1 : x1 = nI a) (hx : x2 = nI m) (hk1 : gsh k0 = (1, (gsh k0).2.1, 0)) (hi1 : i0 < gkn k0) (hL : (gsh k0).2.1 = L) (hL2 : L < 2 ^ 31) (hm : a + m ≤ L) : Ctr l D d yX10_found cX10_found 5 (some .int) [.ref (D.2.2 k0 i0), .int x1, .int x2, .int x3] μ (pI (fun v μ' => v = fndL (fun z => μ.1 k0 i0 (a + z)) x3 m 0 ∧ μ' = μ)) := by
  subst h1 hx
  refine en_X10_found (fun Γ => bl_X10_found_0 hk1 hi1 ?_)
  rintro _ rfl
  exact found_loop (v := fndL (fun z => μ.1 k0 i0 (a + z)) x3 m 0) hk1 hi1 hL hL2 hm ⟨rfl, rfl⟩ m 0 (by omega) rfl
end G1
section G2
variable {l : Launch} {D : gD} {d : Nat} {μ : gMem} {t n dy : Nat} {A : wEnv} {S : pplS} {x1 x2 x3 : Int32}
theorem nC.n7 (h : nC μ t n A S dy) : μ.1 7 t 5 = nI n := h.2.2.1.1.2.1
theorem nC.n6 (h : nC μ t n A S dy) : n ≤ 6 := h.2.2.1.1.2.2.1
theorem nC_idd (h : nC μ t n A S dy) : iw x1 0 (μ.1 7 t 5 - 1) = 0 ↔ ¬ isM n x1 := by
  rw [h.n7]
  exact iw_man (by have := h.n6; omega)
theorem c_X9_named (hd : 1 ≤ d) (h : nC μ t n A S dy) : Ctr l D d yX9_named cX9_named 3 (some .int) [.ref (D.2.2 9 0), .int x1, .int x2] μ (pI (fun v μ' => v = namF (eMen A) n (μ.1 513 t) (μ.1 518 t) x1 x2 ∧ μ' = μ)) := by
  have h5 := h.men
  have h6 := h.n6
  have ht := h.2.1
  refine en_X9_named (fun Γ => bl_X9_named_0 (by decide) ?_)
  rw [h.1]
  refine ⟨fun z => ⟨fun z2 => ⟨by rw [namF, if_neg z, if_neg z2], rfl⟩, fun z2 => ⟨ht, ht, 0, _, by omega, c_X9_placeOf (k1 := 518) (L := 6) (m := n) h.n7 rfl ht rfl (by decide) h6, ?_⟩⟩, fun z => ⟨ht, ht, 0, _, by omega, c_X9_placeOf (k1 := 513) (L := 5) (m := eMen A) h.m7 rfl ht rfl (by decide) h5, ?_⟩⟩
  · rintro v μ1 ⟨rfl, rfl⟩
    exact ⟨by rw [namF, if_neg z, if_pos z2], rfl⟩
  · rintro v μ1 ⟨rfl, rfl⟩
    exact ⟨by rw [namF, if_pos z], rfl⟩
theorem c_X9_fault : Ctr l D d yX9_fault cX9_fault 2 (some .int) [.ref (D.2.2 9 0), .int x1] μ (pI (fun v μ' => v = fauF (μ.1 5 0 5) (μ.1 5 0 6) x1 ∧ μ' = μ)) := by
  refine en_X9_fault (fun Γ => bl_X9_fault_0 (by decide) ⟨fun z => ⟨fun z2 => ⟨by rw [fauF, if_neg z, if_neg z2], rfl⟩, fun z2 => ⟨by rw [fauF, if_neg z, if_pos z2], rfl⟩⟩, fun z => ⟨by rw [fauF, if_pos z], rfl⟩⟩)
theorem c_X9_has (hd : 2 ≤ d) (h : nC μ t n A S dy) : Ctr l D d yX9_has cX9_has 4 (some .int) [.ref (D.2.2 9 0), .int x1, .int x2] μ (pI (fun v μ' => v = hasF A S x1 x2 ∧ μ' = μ)) := by
  have h5 := h.men
  refine en_X9_has (fun Γ => bl_X9_has_0 (by decide) ?_)
  rw [h.1, h.iw]
  refine ⟨by omega, h.2.1, fun z1 => ?_, fun z => ⟨by rw [hasF, if_neg z], rfl⟩⟩
  have z1 := Decidable.not_not.mp z1
  obtain ⟨m1, m2⟩ := isM_ix z1
  have hb := h.2.2.1.2.2.2.2.2.1.2.2.2 (ix x1) (by omega)
  refine ⟨ix x1, by omega, m1, ?_⟩
  rw [Nat.mul_zero, Nat.zero_add, h.row (by omega), hasF, if_pos z1]
  refine ⟨fun q => ⟨fun z => ⟨by rw [if_pos q, z], rfl⟩, fun z => ⟨?_, rfl⟩⟩, fun q => ⟨by rw [if_neg (by rw [q]; decide), if_pos q], rfl⟩, fun q => ⟨by rw [if_neg (by rw [q]; decide), if_neg (by rw [q]; decide), if_pos q], rfl⟩, fun q => ⟨by rw [if_neg (by rw [q]; decide), if_neg (by rw [q]; decide), if_neg (by rw [q]; decide), if_pos q], rfl⟩, fun q => ⟨by rw [if_neg q.1, if_neg q.2.1, if_neg q.2.2.1, if_neg q.2.2.2], rfl⟩⟩
  rw [if_pos q]
  rcases hb with w | w
  · exact absurd w z
  · exact w.symm
theorem c_X9_deed (hd : 2 ≤ d) (h : nC μ t n A S dy) : Ctr l D d yX9_deed cX9_deed 3 (some .int) [.ref (D.2.2 9 0), .int x1, .int x2] μ (pI (fun v μ' => v = dedF n (μ.1 519 t) (μ.1 520 t) (μ.1 521 t) x1 x2 ∧ μ' = μ)) := by
  have h6 := h.n6
  have ht := h.2.1
  refine en_X9_deed (fun Γ => bl_X9_deed_0 (by decide) ?_)
  rw [h.1, nC_idd h]
  refine ⟨by omega, ht, fun z1 => ?_, fun z => ⟨by rw [dedF, if_neg z], rfl⟩⟩
  have z1 := Decidable.not_not.mp z1
  obtain ⟨m1, m2⟩ := isM_ix z1
  rw [dedF, if_pos z1]
  refine ⟨fun q => ⟨ht, ix x1, by omega, m1, by rw [if_pos q], rfl⟩, fun q => ⟨ht, ix x1, by omega, m1, by rw [if_neg (by rw [q]; decide), if_pos q], rfl⟩, fun q => ⟨ht, ix x1, by omega, m1, by rw [if_neg (by rw [q]; decide), if_neg (by rw [q]; decide), if_pos q], rfl⟩, fun q => ⟨by rw [if_neg q.1, if_neg q.2.1, if_neg q.2.2], rfl⟩⟩
theorem c_X9_times (hd : 2 ≤ d) (h : nC μ t n A S dy) : Ctr l D d yX9_times cX9_times 3 (some .int) [.ref (D.2.2 9 0), .int x1, .int x2] μ (pI (fun v μ' => v = timF (eMen A) n (fun p => μ.1 331 p) x1 x2 ∧ μ' = μ)) := by
  have h5 := h.men
  have h6 := h.n6
  have ht := h.2.1
  refine en_X9_times (fun Γ => bl_X9_times_0 (by decide) ?_)
  rw [h.1, h.iw, nC_idd h]
  refine ⟨by omega, ht, fun z => ⟨by rw [timF, if_neg (fun w => z w.1)], rfl⟩, fun z1 => ⟨by omega, ht, fun z => ⟨by rw [timF, if_neg (fun w => z w.2)], rfl⟩, fun z2 => ?_⟩⟩
  have z1 := Decidable.not_not.mp z1
  have z2 := Decidable.not_not.mp z2
  obtain ⟨m1, m2⟩ := isM_ix z1
  obtain ⟨n1, n2⟩ := isM_ix z2
  exact ⟨ix x1, by omega, m1, ix x2, by omega, n1, by rw [timF, if_pos ⟨z1, z2⟩, Nat.mul_zero, Nat.zero_add], rfl⟩
theorem c_X9_law (hd : 3 ≤ d) (h : nC μ t n A S dy) : Ctr l D d yX9_law cX9_law 4 (some .long) [.ref (D.2.2 9 0), .int x1, .int x2] μ (pJ (fun v μ' => v = lawF A S dy x1 x2 ∧ cqF μ μ' ∧ jk μ')) := by
  have h5 := h.men
  have h6 := h.n6
  have ht := h.2.1
  have hA := h.2.2.1.2.1
  have hO := hA.2.2.2.1
  have hL := h.2.2.1.1.2.2.2.1
  refine en_X9_law (fun Γ => bl_X9_law_0 (by decide) ?_)
  rw [h.1, h.iw, iw_lit (x := x1) (za := 0) (zb := 2) (by decide) (by decide)]
  refine ⟨by omega, fun z => ⟨by rw [lawF, if_neg (fun w => z w.1)], cqF.rf, h.jk⟩, fun z1 => ⟨by omega, ht, fun z => ⟨by rw [lawF, if_neg (fun w => z w.2)], cqF.rf, h.jk⟩, fun z2 => ?_⟩⟩
  have z1 := Decidable.not_not.mp z1
  have z2 := Decidable.not_not.mp z2
  obtain ⟨r1, r2⟩ := inR_ix (b := 2) z1
  obtain ⟨m1, m2⟩ := isM_ix z2
  have hr3 : ix x1 < 3 := by omega
  have val : lawF A S dy x1 x2 = oJ (evR A.1.1 A.1.2.1 A.1.2.2 (ix x1) (nms (S (ix x2) 1) (S (ix x2) 0) (dC0 (S (ix x2) 10) (S (ix x2) 1) (ePc A (ix x2)) (S (ix x2) 9)) (S (ix x2) 2) (bhF A S (ix x2)) (nI dy))) := if_pos ⟨z1, z2⟩
  rw [val]
  refine ⟨ht, 0, _, by omega, by rw [r1]; exact c_X2_isTold ht hr3 hO hL, ?_⟩
  rintro v μ1 ⟨rfl, rfl⟩
  obtain ⟨h1, h2, hcc⟩ := hL.1 (ix x1) hr3
  obtain ⟨o1, o2, o3⟩ := hO (ix x1) hr3
  by_cases hlt : A.1.2.1 (ix x1) < A.1.2.2 (ix x1)
  · rw [bI, if_pos hlt]
    refine ⟨fun _ => ⟨ix x2, by omega, m1, ?_⟩, fun z => absurd z (by decide)⟩
    rw [h.1, Nat.mul_zero, Nat.zero_add]
    refine ⟨ht, ht, 1, _, by omega, c_X4_stepsOn (n := n) (Nat.le_refl 1) (by omega) ht h.n7 h6, ?_⟩
    rintro v μ2 ⟨rfl, rfl⟩
    refine ⟨1, _, by omega, c_X8_setNames (Nat.le_refl 1) (by decide) ht (by omega) hL.2.1, ?_⟩
    rintro μ3 ⟨hF3, hn3⟩
    have e0 : μ3.2.2 0 = t := by rw [hF3.2.1]; exact h.1
    rw [e0]
    refine ⟨ht, 1, _, by omega, by rw [r1]; exact c_X2_workOut (a := A.1.2.1 (ix x1)) (b := A.1.2.2 (ix x1)) (c := A.1.1) (Nat.le_refl 1) ht hr3 (by omega) (by omega) (by rw [hF3.1]; exact h1) (by rw [hF3.1]; exact h2) (by rw [hF3.1]; exact hcc) hn3 (fun n _ => nms_in _ _ _ _ _ _ n) (o3 hlt), ?_⟩
    rintro v μ4 ⟨hF4, hv⟩
    have hFr : lwFr t μ2 μ4 := hF3.tr (lwFr.ev hF4)
    have hG : cqF μ2 μ4 := ⟨fun k j _ _ => by rw [hFr.1], hFr.2.1, fun k j _ a b c => hFr.2.2 k j (fun w => a w.1) (fun w => b w.1) (fun w => c w.1)⟩
    have hJ : jk μ4 := h.jk.of (fun i => by rw [hFr.1]) (fun i => by rw [hFr.1])
    have e4 : μ4.2.2 0 = t := by rw [hFr.2.1]; exact h.1
    rw [e4]
    have row : ∀ j, μ2.1 4 (ix x2) j = S (ix x2) j := fun j => by rw [h.row (by omega)]
    have eps : psum (μ2.1 520 t) (μ2.1 331 (ix x2)) n = ePc A (ix x2) := by
      have := (h.2.2.1.2.2.2.1 (ix x2) m2).2
      rw [Nat.mul_zero, Nat.zero_add] at this
      exact this
    have key : evR A.1.1 A.1.2.1 A.1.2.2 (ix x1) (nms (μ2.1 4 (ix x2) 1) (μ2.1 4 (ix x2) 0) (dC0 (μ2.1 4 (ix x2) 10) (μ2.1 4 (ix x2) 1) (psum (μ2.1 520 t) (μ2.1 331 (ix x2)) n) (μ2.1 4 (ix x2) 9)) (μ2.1 4 (ix x2) 2) (bhC (fun k => μ2.1 4 (5 * 0 + k) 4) (μ2.1 8 0 5) (μ2.1 2 t 8) (μ2.1 4 (ix x2) 4)) (μ2.1 8 0 1)) = evR A.1.1 A.1.2.1 A.1.2.2 (ix x1) (nms (S (ix x2) 1) (S (ix x2) 0) (dC0 (S (ix x2) 10) (S (ix x2) 1) (ePc A (ix x2)) (S (ix x2) 9)) (S (ix x2) 2) (bhF A S (ix x2)) (nI dy)) := by
      rw [eps, row, row, row, row, row, row, h.2.2.1.2.2.2.2.2.2]
      by_cases hm : μ2.1 2 t 8 = 0
      · refine evR_cong (fun n hn => ?_) hO (hL.2.2 hm) hr3
        unfold nms
        simp [hn]
      · have hS := h.2.2.1.2.2.2.2.2.1
        have e1 : (fun k => μ2.1 4 (5 * 0 + k) 4) = fun k => μ2.1 4 k 4 := by
          funext k
          rw [Nat.mul_zero, Nat.zero_add]
        have eb : bhC (fun k => μ2.1 4 (5 * 0 + k) 4) (μ2.1 8 0 5) (μ2.1 2 t 8) (S (ix x2) 4) = bhF A S (ix x2) := by
          rw [bhC, if_neg hm, h.2.2.1.2.2.1.1, pln_g h.2.2.2.1, e1, mxF_cong (f := fun k => μ2.1 4 k 4) (g := fun k => S k 4) (m := 5) 5 0 _ (by omega) (fun k hk => by rw [h.row hk])]
          rw [mxF_eq (f := fun k => S k 4) (men := eMen A) (p := ix x2) h5 m2 (nI_nm1 (by omega)) rfl (fun k hk => (hS.2.1 k hk).1) (fun k a b => hS.2.2.1 k a b)]
          rfl
        rw [eb]
    have ev : evR A.1.1 A.1.2.1 A.1.2.2 (ix x1) (nms (μ2.1 4 (ix x2) 1) (μ2.1 4 (ix x2) 0) (dC0 (μ2.1 4 (ix x2) 10) (μ2.1 4 (ix x2) 1) (psum (μ2.1 520 t) (μ2.1 331 (ix x2)) n) (μ2.1 4 (ix x2) 9)) (μ2.1 4 (ix x2) 2) (bhC (fun k => μ2.1 4 (5 * 0 + k) 4) (μ2.1 8 0 5) (μ2.1 2 t 8) (μ2.1 4 (ix x2) 4)) (μ2.1 8 0 1)) = _ := if_pos hlt
    rw [← key, ev]
    rcases hv with ⟨rfl, hE⟩ | ⟨rfl, z, hE, hz, -⟩
    · refine ⟨fun _ => ⟨?_, hG, hJ⟩, fun z => absurd rfl z⟩
      rw [hE]
      rfl
    · refine ⟨fun z => absurd z (by decide), fun _ => ⟨ht, ?_, hG, hJ⟩⟩
      rw [hE, hz]
      rfl
  · rw [bI, if_neg hlt]
    refine ⟨fun z => absurd rfl z, fun _ => ⟨?_, cqF.rf, h.jk⟩⟩
    rw [evR, if_neg hlt]
    rfl
end G2
section G2M
variable {l : Launch} {D : gD} {d : Nat} {μ : gMem} {n dy : Nat} {A : wEnv} {S : pplS} {x1 x2 x3 : Int32}
theorem nM.n7 (h : nM μ n A S dy) : μ.1 707 0 1 = nI n := h.1.1.2.1
theorem nM.n6 (h : nM μ n A S dy) : n ≤ 6 := h.1.1.2.2.1
theorem nM_idd (h : nM μ n A S dy) : isn x1 (μ.1 707 0 1) = 0 ↔ ¬ isM n x1 := by
  rw [h.n7]
  exact isn_man (by have := h.n6; omega)
theorem c_X10_named (hd : 1 ≤ d) (h : nM μ n A S dy) : Ctr l D d yX10_named cX10_named 3 (some .int) [.ref (D.2.2 10 0), .int x1, .int x2] μ (pI (fun v μ' => v = namF (eMen A) n (μ.1 708 0) (μ.1 712 0) x1 x2 ∧ mqF μ μ')) := by
  have h5 := h.men
  have h6 := h.n6
  refine en_X10_named (fun Γ => bl_X10_named_0 (by decide) ?_)
  rintro μ1 e1
  have hF0 : mqF μ μ1 := by rw [e1]; exact h.th.1
  have h1 : nM μ1 n A S dy := by rw [e1]; exact h.th.2
  clear e1
  rw [← hF0.1 708 0 (by omega) (by omega), ← hF0.1 712 0 (by omega) (by omega)]
  refine ⟨fun z => ⟨0, _, by omega, c_X10_found (k0 := 708) (a := 0) (L := 10) (m := eMen A) rfl h1.1.1.1 rfl (by decide) rfl (by decide) (by omega), ?_⟩, fun z => ⟨0, _, by omega, c_X10_found (k0 := 712) (a := 0) (L := 12) (m := n) rfl h1.n7 rfl (by decide) rfl (by decide) (by omega), ?_⟩, fun z => ⟨by rw [namF, if_neg z.1, if_neg z.2], hF0⟩⟩
  · rintro v μ2 ⟨rfl, rfl⟩
    refine ⟨?_, hF0⟩
    rw [namF, if_pos z, fndL_cong (g := μ2.1 708 0) _ 0 (fun k _ _ => by rw [Nat.zero_add])]
  · rintro v μ2 ⟨rfl, rfl⟩
    refine ⟨?_, hF0⟩
    rw [namF, if_neg (by rw [z]; decide), if_pos z, fndL_cong (g := μ2.1 712 0) _ 0 (fun k _ _ => by rw [Nat.zero_add])]
theorem c_X10_fault (h : nM μ n A S dy) : Ctr l D d yX10_fault cX10_fault 2 (some .int) [.ref (D.2.2 10 0), .int x1] μ (pI (fun v μ' => v = fauF (μ.1 10 0 26) (μ.1 10 0 27) x1 ∧ mqF μ μ')) := by
  refine en_X10_fault (fun Γ => bl_X10_fault_0 (by decide) ?_)
  rintro μ1 rfl
  obtain ⟨hF0, h1⟩ := h.th
  rw [hF0.2.2.2.2.1 26 (by omega) (by omega) (by omega), hF0.2.2.2.2.1 27 (by omega) (by omega) (by omega)]
  exact ⟨fun z => ⟨fun z2 => ⟨by rw [fauF, if_neg z, if_neg z2], hF0⟩, fun z2 => ⟨by rw [fauF, if_neg z, if_pos z2], hF0⟩⟩, fun z => ⟨by rw [fauF, if_pos z], hF0⟩⟩
theorem c_X10_has (hd : 1 ≤ d) (h : nM μ n A S dy) : Ctr l D d yX10_has cX10_has 3 (some .int) [.ref (D.2.2 10 0), .int x1, .int x2] μ (pI (fun v μ' => v = hasF A S x1 x2 ∧ mqF μ μ')) := by
  have h5 := h.men
  refine en_X10_has (fun Γ => bl_X10_has_0 (by decide) ?_)
  rintro μ1 e1
  have hF0 : mqF μ μ1 := by rw [e1]; exact h.th.1
  have h1 : nM μ1 n A S dy := by rw [e1]; exact h.th.2
  clear e1
  rw [h1.isn]
  refine ⟨by omega, fun z1 => ?_, fun z => ⟨by rw [hasF, if_neg z], hF0⟩⟩
  have z1 := Decidable.not_not.mp z1
  obtain ⟨m1, m2⟩ := isM_ix z1
  rw [hasF, if_pos z1]
  refine ⟨fun q0 => ⟨fun q1 => ⟨fun q2 => ⟨fun q3 => ⟨by rw [if_neg q0, if_neg q1, if_neg q2, if_neg q3], hF0⟩, fun q3 => ⟨ix x1, by omega, m1, ?_, hF0⟩⟩, fun q2 => ⟨ix x1, by omega, m1, ?_, hF0⟩⟩, fun q1 => ⟨ix x1, by omega, m1, ?_, hF0⟩⟩, fun q0 => ⟨ix x1, by omega, m1, ?_, hF0⟩⟩
  · rw [if_neg q0, if_neg q1, if_neg q2, if_pos q3]
    exact h1.row m2 (j := 8) (by omega)
  · rw [if_neg q0, if_neg q1, if_pos q2]
    exact h1.row m2 (j := 7) (by omega)
  · rw [if_neg q0, if_pos q1]
    exact h1.row m2 (j := 9) (by omega)
  · rw [if_pos q0]
    exact h1.row m2 (j := 10) (by omega)
theorem c_X10_deed (hd : 1 ≤ d) (h : nM μ n A S dy) : Ctr l D d yX10_deed cX10_deed 3 (some .int) [.ref (D.2.2 10 0), .int x1, .int x2] μ (pI (fun v μ' => v = dedF n (μ.1 713 0) (μ.1 714 0) (μ.1 715 0) x1 x2 ∧ mqF μ μ')) := by
  have h6 := h.n6
  refine en_X10_deed (fun Γ => bl_X10_deed_0 (by decide) ?_)
  rintro μ1 e1
  have hF0 : mqF μ μ1 := by rw [e1]; exact h.th.1
  have h1 : nM μ1 n A S dy := by rw [e1]; exact h.th.2
  clear e1
  rw [nM_idd h1, ← hF0.1 713 0 (by omega) (by omega), ← hF0.1 714 0 (by omega) (by omega), ← hF0.1 715 0 (by omega) (by omega)]
  refine ⟨by omega, fun z1 => ?_, fun z => ⟨by rw [dedF, if_neg z], hF0⟩⟩
  have z1 := Decidable.not_not.mp z1
  obtain ⟨m1, m2⟩ := isM_ix z1
  rw [dedF, if_pos z1]
  exact ⟨fun q0 => ⟨fun q1 => ⟨fun q2 => ⟨by rw [if_neg q0, if_neg q1, if_neg q2], hF0⟩, fun q2 => ⟨ix x1, by omega, m1, by rw [if_neg q0, if_neg q1, if_pos q2], hF0⟩⟩, fun q1 => ⟨ix x1, by omega, m1, by rw [if_neg q0, if_pos q1], hF0⟩⟩, fun q0 => ⟨ix x1, by omega, m1, by rw [if_pos q0], hF0⟩⟩
theorem c_X10_times (hd : 1 ≤ d) (h : nM μ n A S dy) : Ctr l D d yX10_times cX10_times 3 (some .int) [.ref (D.2.2 10 0), .int x1, .int x2] μ (pI (fun v μ' => v = timF (eMen A) n (fun p z => μ.1 751 0 (6 * p + z)) x1 x2 ∧ mqF μ μ')) := by
  have h5 := h.men
  have h6 := h.n6
  refine en_X10_times (fun Γ => bl_X10_times_0 (by decide) ?_)
  rintro μ1 e1
  have hF0 : mqF μ μ1 := by rw [e1]; exact h.th.1
  have h1 : nM μ1 n A S dy := by rw [e1]; exact h.th.2
  rw [h1.isn, nM_idd h1]
  refine ⟨by omega, fun z => ⟨by rw [timF, if_neg (fun w => z w.1)], hF0⟩, fun z1 => ⟨by omega, fun z => ⟨by rw [timF, if_neg (fun w => z w.2)], hF0⟩, fun z2 => ?_⟩⟩
  have z1 := Decidable.not_not.mp z1
  have z2 := Decidable.not_not.mp z2
  obtain ⟨m1, m2⟩ := isM_ix z1
  obtain ⟨n1, n2⟩ := isM_ix z2
  have ei : ((6 : Int32) * x1) + x2 = nI (6 * ix x1 + ix x2) := by
    have e : ((6 : Int32) * nI (ix x1)) + nI (ix x2) = nI (6 * ix x1 + ix x2) := by rw [show (6 : Int32) = nI 6 from rfl, pk_mul, nI_add]
    rw [← m1, ← n1] at e
    exact e
  refine ⟨6 * ix x1 + ix x2, by omega, ei, ?_, hF0⟩
  rw [timF, if_pos ⟨z1, z2⟩, e1, gsI_off (by omega)]
theorem c_X10_law (hd : 3 ≤ d) (h : nM μ n A S dy) : Ctr l D d yX10_law cX10_law 4 (some .long) [.ref (D.2.2 10 0), .int x1, .int x2] μ (pJ (fun v μ' => v = lawF A S dy x1 x2 ∧ mqF μ μ')) := by
  have h5 := h.men
  have h6 := h.n6
  have hA := h.1.2.1
  have hO := hA.2.2.2.1
  refine en_X10_law (fun Γ => bl_X10_law_0 (by decide) ?_)
  rintro μ1 e1
  have hF0 : mqF μ μ1 := by rw [e1]; exact h.th.1
  have h1 : nM μ1 n A S dy := by rw [e1]; exact h.th.2
  clear e1
  have hL := h1.1.1.2.2.2.1
  rw [lt0, gtL (z := 2) (by decide)]
  refine ⟨fun z => ⟨by rw [lawF, if_neg (fun w => by have := w.1; omega)], hF0⟩, fun z1 => ⟨fun z => ⟨by rw [lawF, if_neg (fun w => by have := w.1; omega)], hF0⟩, fun z2 => ?_⟩⟩
  have y1 : inR x1 0 2 := by omega
  obtain ⟨r1, r2⟩ := inR_ix (b := 2) y1
  have hr3 : ix x1 < 3 := by omega
  obtain ⟨l1, l2, hcc⟩ := hL (ix x1) hr3
  obtain ⟨o1, o2, o3⟩ := hO (ix x1) hr3
  refine ⟨0, _, by omega, by rw [r1]; exact c_X10_hasLaw hr3 hO hL, ?_⟩
  rintro v μ2 ⟨rfl, rfl⟩
  by_cases hlt : A.1.2.1 (ix x1) < A.1.2.2 (ix x1)
  · rw [bI, if_pos hlt, h1.isn]
    refine ⟨fun z => absurd z (by decide), fun _ => ⟨by omega, fun z3 => ?_, fun z => ⟨by rw [lawF, if_neg (fun w => z w.2)], hF0⟩⟩⟩
    have z3 := Decidable.not_not.mp z3
    obtain ⟨m1, m2⟩ := isM_ix z3
    have row : ∀ j, j ≤ 10 → μ2.1 (mkk j) 0 (ix x2) = S (ix x2) j := fun j hj => h1.row m2 hj
    have val : lawF A S dy x1 x2 = oJ (evR A.1.1 A.1.2.1 A.1.2.2 (ix x1) (nms (S (ix x2) 1) (S (ix x2) 0) (dC0 (S (ix x2) 10) (S (ix x2) 1) (ePc A (ix x2)) (S (ix x2) 9)) (S (ix x2) 2) (bhF A S (ix x2)) (nI dy))) := if_pos ⟨y1, z3⟩
    have fin : ∀ w : Int32, w = (if S (ix x2) 10 = 0 then 0 else S (ix x2) 1 + ePc A (ix x2)) → pt_X10_law_1 l D d (fun v μ' => v = lawF A S dy x1 x2 ∧ mqF μ μ') Γ 0 x1 x2 (S (ix x2) 9) w μ2 := by
      intro w hw
      refine bl_X10_law_1 (by decide) ?_
      rintro x3 e3
      have e3' : x3 = dC0 (S (ix x2) 10) (S (ix x2) 1) (ePc A (ix x2)) (S (ix x2) 9) := by rw [e3, hw, Int32.add_comm]; rfl
      rw [e3']
      have hc := c_X10_calls (l := l) (D := D) (d := 2) (μ := μ2) (w := 0) (p := ix x2) (men := eMen A) (cnt := dC0 (S (ix x2) 10) (S (ix x2) 1) (ePc A (ix x2)) (S (ix x2) 9)) (by omega) (by decide) (by omega) h1.1.1.1 h5
      rw [← m1] at hc
      refine ⟨2, _, by omega, hc, ?_⟩
      rintro μ3 ⟨hF3, hI3, hn3⟩
      refine ⟨2, _, by omega, by rw [r1]; exact c_X10_goes (a := A.1.2.1 (ix x1)) (b := A.1.2.2 (ix x1)) (c := A.1.1) (Nat.le_refl 2) (by omega) (by omega) (by omega) (by rw [hI3]; exact l1) (by rw [hI3]; exact l2) (by rw [hI3]; exact hcc) hn3 (o3 hlt), ?_⟩
      rintro v μ4 ⟨hF4, hv⟩
      have hFr : mlFr μ2 μ4 := hF3.tr (mlFr.ev hF4)
      have hG : mqF μ2 μ4 := ⟨fun k j _ b => hFr.1 k j b, fun k a b z _ => by rw [hFr.1 k 0 (by omega)], fun k a b z _ => by rw [hFr.1 k 0 (by omega)], fun z _ => by rw [hFr.1 751 0 (by omega)], fun j _ a _ => hFr.2.1 j a, hFr.2.2.1, fun k j a b => hFr.2.2.2 k j a b⟩
      have hbh : mxF (fun k => μ2.1 744 0 (5 * 0 + k)) (gnM μ2) (eMen A) 0 0 - μ2.1 744 0 (5 * 0 + ix x2) = bhF A S (ix x2) := by
        have a4 : μ2.1 744 0 (ix x2) = S (ix x2) 4 := row 4 (by omega)
        have e := mxF_cong (f := fun k => μ2.1 744 0 (5 * 0 + k)) (g := fun k => S k 4) (gone := -1) (m := eMen A) (eMen A) 0 0 (by omega) (fun k hk => by rw [Nat.mul_zero, Nat.zero_add]; exact h1.row hk (j := 4) (by omega))
        rw [h1.1.2.2.1.1, pln_g h.2.1, e, Nat.mul_zero, Nat.zero_add, a4]
        rfl
      rw [hbh, h1.1.2.2.2.2.2.2, Nat.mul_zero, Nat.zero_add, show μ2.1 741 0 (ix x2) = S (ix x2) 1 from row 1 (by omega), show μ2.1 740 0 (ix x2) = S (ix x2) 0 from row 0 (by omega), show μ2.1 742 0 (ix x2) = S (ix x2) 2 from row 2 (by omega)] at hv
      have ev : evR A.1.1 A.1.2.1 A.1.2.2 (ix x1) (nms (S (ix x2) 1) (S (ix x2) 0) (dC0 (S (ix x2) 10) (S (ix x2) 1) (ePc A (ix x2)) (S (ix x2) 9)) (S (ix x2) 2) (bhF A S (ix x2)) (nI dy)) = _ := if_pos hlt
      rw [val, ev]
      rcases hv with ⟨rfl, hE⟩ | ⟨rfl, z, hE, hz⟩
      · refine ⟨fun _ => ⟨?_, hF0.tr hG⟩, fun z => absurd rfl z⟩
        rw [hE]
        rfl
      · refine ⟨fun z => absurd z (by decide), fun _ => ⟨?_, hF0.tr hG⟩⟩
        rw [hE, hz]
        rfl
    have b10 : S (ix x2) 10 = 0 ∨ S (ix x2) 10 = 1 := h.1.2.2.2.2.2.1.2.2.2 _ (by omega)
    refine ⟨ix x2, by omega, m1, ix x2, by omega, m1, ?_⟩
    rw [show μ2.1 747 0 (ix x2) = S (ix x2) 10 from row 10 (by omega), show μ2.1 748 0 (ix x2) = S (ix x2) 9 from row 9 (by omega)]
    refine ⟨fun z => fin 0 ?_, fun z => ⟨ix x2, by omega, m1, ?_⟩⟩
    · rcases b10 with w | w
      · rw [if_pos w]
      · exact absurd w z
    · have hs := c_X10_deedSteps (l := l) (D := D) (d := 0) (μ := μ2) (w := 0) (p := ix x2) (k3 := 714) (n := n) (by decide) (by omega) rfl (by decide) h1.n7 h6 (by show n ≤ 12; omega) (by decide)
      rw [← m1] at hs
      refine ⟨0, _, by omega, hs, ?_⟩
      rintro v μ3 ⟨rfl, rfl⟩
      have ep : psum (μ3.1 714 0) (fun k => μ3.1 751 0 (30 * 0 + 6 * ix x2 + k)) n = ePc A (ix x2) := by
        have := (h1.1.2.2.2.1 (ix x2) m2).2
        unfold prM at this
        rw [if_neg (by rw [h1.2.2.2.1]; decide)] at this
        exact this
      rw [if_neg (by rw [h1.2.2.2.1]; decide), ep, show μ3.1 741 0 (ix x2) = S (ix x2) 1 from row 1 (by omega)]
      exact fin _ (by rw [if_neg (by rw [z]; decide)])
  · rw [bI, if_neg hlt]
    refine ⟨fun _ => ⟨?_, hF0⟩, fun z => absurd rfl z⟩
    rw [lawF]
    split
    · rw [evR, if_neg hlt]
      rfl
    · rfl
end G2M
