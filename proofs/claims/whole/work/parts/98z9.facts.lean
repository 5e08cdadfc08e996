/-! WHAT THE STATEMENT GIVES AT THE START: where classes and strings are, what the statics hold -/
section FST
variable {s : State} {b : Nat}
theorem tw9 (h : ∀ w ∈ lw_tbl, w.before #[Value.ref b] s = true) (i : Nat) {w : Cond} (hi : tables_1[i]? = some w) : w.before #[Value.ref b] s = true := h w (List.mem_append_right _ (List.mem_of_getElem? hi))
theorem nw9 (h : (Jvm.Cond.and given_1 narrow_1).before #[Value.ref b] s = true) (i : Nat) {w : Cond} (hi : (flatC (Jvm.Cond.and given_1 narrow_1))[i]? = some w) : w.before #[Value.ref b] s = true := flat_of_before _ h w (List.mem_of_getElem? hi)
theorem al9 : ∀ a : Nat, a < s.heap.size → ¬ AL s a := fun a h hge => absurd h (Nat.not_lt.mpr hge)
theorem arr9_i {args : Array Value} (h : (Cond.arrayClass FieldType.int).before args s = true) : ∃ cA : ClassId, ArrOfT s cA FieldType.int ∧ va_RA s cA FieldType.int := by
  obtain ⟨cA, kA, comp, h1, h2, h3⟩ := Cond.arrayClass_spec (args := args) (first := s) (o := none) (s := s) (idx := []) h
  exact ⟨cA, fun n z => ⟨fun k hk => (by cases hk), kA, h2, comp, h3⟩, h1⟩
theorem arr9_b {args : Array Value} (h : (Cond.arrayClass FieldType.byte).before args s = true) : ∃ cA : ClassId, ArrOfT s cA FieldType.byte ∧ va_RA s cA FieldType.byte := by
  obtain ⟨cA, kA, comp, h1, h2, h3⟩ := Cond.arrayClass_spec (args := args) (first := s) (o := none) (s := s) (idx := []) h
  exact ⟨cA, fun n z => ⟨fun k hk => (by cases hk), kA, h2, comp, h3⟩, h1⟩
theorem arr9_z {args : Array Value} (h : (Cond.arrayClass FieldType.boolean).before args s = true) : ∃ cA : ClassId, ArrOfT s cA FieldType.boolean ∧ va_RA s cA FieldType.boolean := by
  obtain ⟨cA, kA, comp, h1, h2, h3⟩ := Cond.arrayClass_spec (args := args) (first := s) (o := none) (s := s) (idx := []) h
  exact ⟨cA, fun n z => ⟨fun k hk => (by cases hk), kA, h2, comp, h3⟩, h1⟩
theorem arr9_j {args : Array Value} (h : (Cond.arrayClass FieldType.long).before args s = true) : ∃ cA : ClassId, ArrOfT s cA FieldType.long ∧ va_RA s cA FieldType.long := by
  obtain ⟨cA, kA, comp, h1, h2, h3⟩ := Cond.arrayClass_spec (args := args) (first := s) (o := none) (s := s) (idx := []) h
  exact ⟨cA, fun n z => ⟨fun k hk => (by cases hk), kA, h2, comp, h3⟩, h1⟩
theorem arr9_p {args : Array Value} (h : (Cond.arrayOver (FieldType.object "WristGoal$Person")).before args s = true) : ∃ cA : ClassId, ArrOfT s cA (FieldType.object "WristGoal$Person") ∧ va_RA s cA (FieldType.object "WristGoal$Person") := by
  obtain ⟨comp, cA, kA, h1, -, h3, h4, h5⟩ := Cond.arrayOver_spec (args := args) (first := s) (o := none) (s := s) (idx := []) h
  exact ⟨cA, fun n z => ⟨fun k hk => (by cases hk), kA, h3, comp, h4⟩, kA, comp, h3, h4, h1, h5⟩
theorem el9 : ∀ j, j < 100 → (flatC (Jvm.Cond.and given_1 narrow_1))[39 + j]? = some (Cond.eq (Term.elem (Term.field (Term.string "WristGoal$Tokens" 19) "java/lang/String" "value" "[B") (Term.int (Int32.ofNat j))) (Term.int (gSb.getD j 0))) := by decide +kernel
theorem str9 (hgv : (Jvm.Cond.and given_1 narrow_1).before #[Value.ref b] s = true) : ∃ aK aV : Nat, vk_S 1 [100] [gSb] (fun _ => aK) (fun _ => aV) (AL s) s s.heap ∧ (Term.string "WristGoal$Tokens" 19).eval #[Value.ref b] s none [] s = some (.ref aK) := by
  obtain ⟨adK, adV, h1, h2⟩ := vk_Sof (args := #[Value.ref b]) (s := s) (N := 1) (tm := fun _ => Term.string "WristGoal$Tokens" 19) (len := [100]) (byt := [gSb]) (A := AL s) (fun i hi => by obtain rfl : i = 0 := (by omega); decide) (fun i hi => nw9 hgv 35 (by decide +kernel)) (fun i hi => nw9 hgv 36 (by decide +kernel)) (fun i hi => nw9 hgv 37 (by decide +kernel)) (fun i hi => by obtain rfl : i = 0 := (by omega); exact nw9 hgv 38 (by decide +kernel)) (fun i hi j hj => by obtain rfl : i = 0 := (by omega); exact nw9 hgv (39 + j) (el9 j hj)) (fun i j hi hj hne => absurd (show i = j by omega) hne) al9
  exact ⟨adK 0, adV 0, ⟨fun i hi => by obtain rfl : i = 0 := (by omega); exact h1.1 0 (by decide), fun i j hi hj _ => by omega⟩, h2 0 (by decide)⟩
theorem ncs9 {args : Array Value} {a9 b9 : String} (h : (Cond.not (.castable a9 b9)).before args s = true) : ∃ c t : ClassId, s.vm.findClass a9 = some c ∧ s.vm.findClass b9 = some t ∧ s.vm.assignable c t = false := by
  simp only [Cond.before, Cond.holds, Cond.value] at h
  cases hc : s.vm.findClass a9 with
  | none => simp [hc] at h
  | some c =>
    cases ht : s.vm.findClass b9 with
    | none => simp [hc, ht] at h
    | some t =>
      simp [hc, ht] at h
      exact ⟨c, t, rfl, rfl, h⟩
theorem ex9 {args : Array Value} {t : Term} (h : (Cond.exactly t "java/lang/String").before args s = true) : ∃ a : Nat, t.eval args s none [] s = some (.ref a) := by
  obtain ⟨a, c, cell, k, h1, -⟩ := Cond.exactly_spec (args := args) (first := s) (o := none) (s := s) (idx := []) (t := t) (cls := "java/lang/String") h
  exact ⟨a, h1⟩
theorem gn9 (hts : ∀ w ∈ lw_tbl, w.before #[Value.ref b] s = true) : ∀ w ∈ gnest, va_Nw w s := by
  intro w hw
  simp only [gnest, List.mem_cons, List.not_mem_nil, or_false] at hw
  rcases hw with rfl | rfl | rfl | rfl | rfl
  · exact va_Nw.of rfl (tw9 hts 689 (by decide +kernel))
  · exact va_Nw.of rfl (tw9 hts 812 (by decide +kernel))
  · exact va_Nw.of rfl (tw9 hts 630 (by decide +kernel))
  · exact va_Nw.of rfl (tw9 hts 625 (by decide +kernel))
  · exact va_Nw.of rfl (tw9 hts 589 (by decide +kernel))
theorem kn9 (hts : ∀ w ∈ lw_tbl, w.before #[Value.ref b] s = true) : ∀ w ∈ knest, va_Nw w s := by
  intro w hw
  simp only [knest, List.mem_cons, List.not_mem_nil, or_false] at hw
  rcases hw with rfl | rfl | rfl | rfl | rfl | rfl
  · exact va_Nw.of rfl (tw9 hts 132 (by decide +kernel))
  · exact va_Nw.of rfl (tw9 hts 182 (by decide +kernel))
  · exact va_Nw.of rfl (tw9 hts 188 (by decide +kernel))
  · exact va_Nw.of rfl (tw9 hts 341 (by decide +kernel))
  · exact va_Nw.of rfl (tw9 hts 448 (by decide +kernel))
  · exact va_Nw.of rfl (tw9 hts 481 (by decide +kernel))
set_option maxHeartbeats 4000000 in
theorem first9 (hts : ∀ w ∈ lw_tbl, w.before #[Value.ref b] s = true) (hgv : (Jvm.Cond.and given_1 narrow_1).before #[Value.ref b] s = true) : ∃ D : gD, lX D s ∧ (∀ w ∈ knest, va_Nw w s) ∧ va_AO "WristGoal$Person" s ∧ nCs s := by
  have hgw : ∀ w ∈ gw, w.before #[Value.ref b] s = true := fun w hw => hts w (List.mem_filter.mp hw).1
  obtain ⟨c0, i0, k0⟩ := u_known (C := gCn 0) (T := gTt 0) (N := 5) (n := 5) hgw ob_0.2.2.2.1 (tw9 hts 480 (by decide +kernel))
  obtain ⟨c1, i1, k1⟩ := u_known (C := gCn 1) (T := gTt 1) (N := 6) (n := 6) hgw ob_1.2.2.2.1 (tw9 hts 131 (by decide +kernel))
  obtain ⟨c2, i2, k2⟩ := u_known (C := gCn 2) (T := gTt 2) (N := 10) (n := 10) hgw ob_2.2.2.2.1 (tw9 hts 187 (by decide +kernel))
  obtain ⟨c3, i3, k3⟩ := u_known (C := gCn 3) (T := gTt 3) (N := 8) (n := 8) hgw ob_3.2.2.2.1 (tw9 hts 447 (by decide +kernel))
  obtain ⟨c4, i4, k4⟩ := u_known (C := gCn 4) (T := gTt 4) (N := 12) (n := 12) hgw ob_4.2.2.2.1 (tw9 hts 340 (by decide +kernel))
  obtain ⟨c5, i5, k5⟩ := u_known (C := gCn 5) (T := gTt 5) (N := 7) (n := 7) hgw ob_5.2.2.2.1 (tw9 hts 125 (by decide +kernel))
  obtain ⟨c6, i6, k6⟩ := u_known (C := gCn 6) (T := gTt 6) (N := 8) (n := 8) hgw ob_6.2.2.2.1 (tw9 hts 33 (by decide +kernel))
  obtain ⟨c7, i7, k7⟩ := u_known (C := gCn 7) (T := gTt 7) (N := 19) (n := 19) hgw ob_7.2.2.2.1 (tw9 hts 181 (by decide +kernel))
  obtain ⟨c8, i8, k8⟩ := u_known (C := gCn 8) (T := gTt 8) (N := 8) (n := 8) hgw ob_8.2.2.2.1 (tw9 hts 333 (by decide +kernel))
  obtain ⟨c9, i9, k9⟩ := u_known (C := gCn 9) (T := gTt 9) (N := 12) (n := 12) hgw ob_9.2.2.2.1 (tw9 hts 25 (by decide +kernel))
  obtain ⟨c10, i10, k10⟩ := u_known (C := gCn 10) (T := gTt 10) (N := 63) (n := 63) hgw ob_10.2.2.2.1 (tw9 hts 1201 (by decide +kernel))
  obtain ⟨cI, hI⟩ := arr9_i (tw9 hts 123 (by decide +kernel))
  obtain ⟨cB, hB⟩ := arr9_b (tw9 hts 122 (by decide +kernel))
  obtain ⟨cZ, hZ⟩ := arr9_z (tw9 hts 155 (by decide +kernel))
  obtain ⟨cJ, hJ⟩ := arr9_j (tw9 hts 228 (by decide +kernel))
  obtain ⟨cP, hP⟩ := arr9_p (tw9 hts 339 (by decide +kernel))
  obtain ⟨aK, aV, hS, hE⟩ := str9 hgv
  obtain ⟨a4, e4⟩ := ex9 (t := Term.string "WristGoalModel" 188) (nw9 hgv 176 (by decide +kernel))
  have e5 := va_eqv (t := Term.string "WristGoal$Tokens" 19) (nw9 hgv 280 (by decide +kernel)) e4
  have e6 : a4 = aK := by
    rw [hE] at e5
    cases e5
    rfl
  subst e6
  obtain ⟨aP, eP⟩ := ex9 (t := Term.string "WristGoal" 127) (nw9 hgv 139 (by decide +kernel))
  obtain ⟨aW, eW⟩ := ex9 (t := Term.string "WristGoal" 164) (nw9 hgv 158 (by decide +kernel))
  refine ⟨((fun k => match k with | 0 => c0 | 1 => c1 | 2 => c2 | 3 => c3 | 4 => c4 | 5 => c5 | 6 => c6 | 7 => c7 | 8 => c8 | 9 => c9 | _ => c10, fun k => match k with | 0 => i0 | 1 => i1 | 2 => i2 | 3 => i3 | 4 => i4 | 5 => i5 | 6 => i6 | 7 => i7 | 8 => i8 | 9 => i9 | _ => i10), fun n => match n with | 1 => cI | 2 => cB | 3 => cZ | 4 => cJ | _ => cP, fun k i => if k = 2001 then aV else if i = 0 then a4 else if i = 1 then aP else aW), ⟨⟨?_, ?_⟩, gn9 hts, ⟨hS, va_Zof (tw9 hts 48 (by decide +kernel)) (tw9 hts 3 (by decide +kernel)) (va_eqt (nw9 hgv 4 (by decide +kernel))) al9, va_Zqof (tw9 hts 64 (by decide +kernel)) (tw9 hts 5 (by decide +kernel)) (nw9 hgv 5 (by decide +kernel)) al9⟩, ⟨va_Zqof (tw9 hts 1147 (by decide +kernel)) (tw9 hts 19 (by decide +kernel)) (nw9 hgv 10 (by decide +kernel)) al9, va_Zqof (tw9 hts 1145 (by decide +kernel)) (tw9 hts 19 (by decide +kernel)) (nw9 hgv 9 (by decide +kernel)) al9⟩, ⟨vk_R.of (tw9 hts 38 (by decide +kernel)) hE, vk_R.of (tw9 hts 1435 (by decide +kernel)) e4, vk_R.of (tw9 hts 1158 (by decide +kernel)) eP, vk_R.of (tw9 hts 1193 (by decide +kernel)) eW⟩, ⟨zL.of (tw9 hts 1145 (by decide +kernel)) al9, zL.of (tw9 hts 1147 (by decide +kernel)) al9⟩⟩, kn9 hts, va_AO.of (tw9 hts 339 (by decide +kernel)), ncs9 (nw9 hgv 22 (by decide +kernel))⟩
  · intro k q hq
    match k, hq with
    | 0, hq => cases hq; exact k0
    | 1, hq => cases hq; exact k1
    | 2, hq => cases hq; exact k2
    | 3, hq => cases hq; exact k3
    | 4, hq => cases hq; exact k4
    | 5, hq => cases hq; exact k5
    | 6, hq => cases hq; exact k6
    | 7, hq => cases hq; exact k7
    | 8, hq => cases hq; exact k8
    | 9, hq => cases hq; exact k9
    | 10, hq => cases hq; exact k10
    | k + 11, hq => simp [vwCl] at hq
  · intro k q hq
    match k, hq with
    | 0, hq => cases hq; exact hI
    | 1, hq => cases hq; exact hB
    | 2, hq => cases hq; exact hZ
    | 3, hq => cases hq; exact hJ
    | 4, hq => cases hq; exact hP
    | k + 5, hq => simp [gtys] at hq
end FST
