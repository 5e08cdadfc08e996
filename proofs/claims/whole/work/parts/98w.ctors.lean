/-! CONSTRUCTORS in a straight line -/
def mkX4 (D : gD) (h0 : Nat) (ad : Nat → Nat) : va_W := (h0, .inr (4, [.int 0, .int 0, .int 0, .int 0, .int 0, .int 0, .int 0, .int 0, .int 0, .int 0, .int 0, .ref (ad 0)])) :: (([] : va_W) ++ [((ad 0), .inl (D.2.1 1, (6, .inl (fun _ => 0))))])
theorem k_X4_init {l : Launch} {D : gD} (h0 : Nat) (sz : Nat) : KCt l D 2 1 6 yX4_init cX4_init 1 [.ref h0] [(h0, .inr (4, [.int 0, .int 0, .int 0, .int 0, .int 0, .int 0, .int 0, .int 0, .int 0, .int 0, .int 0, .null]))] (mkX4 D h0) sz := by
  refine KCt_of rfl (by decide) rfl (Nat.le_of_ble_eq_true rfl) (fun Γ => ?_)
  refine k_aload_n (x := h0) dX4_init_0 rfl ?_
  refine k_objInit (gw_t 344 (by decide +kernel) (by decide +kernel)) (by decide) (by decide) dX4_init_1 ?_
  refine k_aload_n (x := h0) dX4_init_4 rfl ?_
  refine k_bipush (6) dX4_init_5 rfl ?_
  refine k_newI (N := 6) (by decide) (by decide) (by decide) (by decide) (by decide) dX4_init_7 (fun q0z => ?_)
  refine k_putF (ci := 4) (j := 11) (h0 := h0) (fs := [.int 0, .int 0, .int 0, .int 0, .int 0, .int 0, .int 0, .int 0, .int 0, .int 0, .int 0, .null]) (rest := (([] : va_W) ++ [(q0z, .inl (D.2.1 1, (6, .inl (fun _ => 0))))])) (v := .ref q0z) (ty := (.array .int)) fl_4_9 rfl rfl (by decide +kernel) rfl rfl (Nat.le_of_ble_eq_true rfl) dX4_init_9 ?_
  exact k_vret (fun k => match k with | 0 => q0z | _ => 0) rfl rfl rfl dX4_init_12
def mkX0 (D : gD) (h0 : Nat) (ad : Nat → Nat) : va_W := (h0, .inr (0, [.ref (ad 0), .ref (ad 1), .ref (ad 2), .ref (ad 3), .int 0])) :: (([] : va_W) ++ [((ad 0), .inl (D.2.1 1, (20, .inl (fun _ => 0))))] ++ [((ad 1), .inl (D.2.1 1, (20, .inl (fun _ => 0))))] ++ [((ad 2), .inl (D.2.1 1, (20, .inl (fun _ => 0))))] ++ [((ad 3), .inl (D.2.1 1, (20, .inl (fun _ => 0))))])
theorem k_X0_init {l : Launch} {D : gD} (h0 : Nat) (sz : Nat) : KCt l D 2 4 80 yX0_init cX0_init 1 [.ref h0] [(h0, .inr (0, [.null, .null, .null, .null, .int 0]))] (mkX0 D h0) sz := by
  refine KCt_of rfl (by decide) rfl (Nat.le_of_ble_eq_true rfl) (fun Γ => ?_)
  refine k_aload_n (x := h0) dX0_init_0 rfl ?_
  refine k_objInit (gw_t 484 (by decide +kernel) (by decide +kernel)) (by decide) (by decide) dX0_init_1 ?_
  refine k_aload_n (x := h0) dX0_init_4 rfl ?_
  refine k_bipush (20) dX0_init_5 rfl ?_
  refine k_newI (N := 20) (by decide) (by decide) (by decide) (by decide) (by decide) dX0_init_7 (fun q0z => ?_)
  refine k_putF (ci := 0) (j := 0) (h0 := h0) (fs := [.null, .null, .null, .null, .int 0]) (rest := (([] : va_W) ++ [(q0z, .inl (D.2.1 1, (20, .inl (fun _ => 0))))])) (v := .ref q0z) (ty := (.array .int)) fl_0_9 rfl rfl (by decide +kernel) rfl rfl (Nat.le_of_ble_eq_true rfl) dX0_init_9 ?_
  refine k_aload_n (x := h0) dX0_init_12 rfl ?_
  refine k_bipush (20) dX0_init_13 rfl ?_
  refine k_newI (N := 20) (by decide) (by decide) (by decide) (by decide) (by decide) dX0_init_15 (fun q1z => ?_)
  refine k_putF (ci := 0) (j := 1) (h0 := h0) (fs := [.ref q0z, .null, .null, .null, .int 0]) (rest := (([] : va_W) ++ [(q0z, .inl (D.2.1 1, (20, .inl (fun _ => 0))))] ++ [(q1z, .inl (D.2.1 1, (20, .inl (fun _ => 0))))])) (v := .ref q1z) (ty := (.array .int)) fl_0_15 rfl rfl (by decide +kernel) rfl rfl (Nat.le_of_ble_eq_true rfl) dX0_init_17 ?_
  refine k_aload_n (x := h0) dX0_init_20 rfl ?_
  refine k_bipush (20) dX0_init_21 rfl ?_
  refine k_newI (N := 20) (by decide) (by decide) (by decide) (by decide) (by decide) dX0_init_23 (fun q2z => ?_)
  refine k_putF (ci := 0) (j := 2) (h0 := h0) (fs := [.ref q0z, .ref q1z, .null, .null, .int 0]) (rest := (([] : va_W) ++ [(q0z, .inl (D.2.1 1, (20, .inl (fun _ => 0))))] ++ [(q1z, .inl (D.2.1 1, (20, .inl (fun _ => 0))))] ++ [(q2z, .inl (D.2.1 1, (20, .inl (fun _ => 0))))])) (v := .ref q2z) (ty := (.array .int)) fl_0_18 rfl rfl (by decide +kernel) rfl rfl (Nat.le_of_ble_eq_true rfl) dX0_init_25 ?_
  refine k_aload_n (x := h0) dX0_init_28 rfl ?_
  refine k_bipush (20) dX0_init_29 rfl ?_
  refine k_newI (N := 20) (by decide) (by decide) (by decide) (by decide) (by decide) dX0_init_31 (fun q3z => ?_)
  refine k_putF (ci := 0) (j := 3) (h0 := h0) (fs := [.ref q0z, .ref q1z, .ref q2z, .null, .int 0]) (rest := (([] : va_W) ++ [(q0z, .inl (D.2.1 1, (20, .inl (fun _ => 0))))] ++ [(q1z, .inl (D.2.1 1, (20, .inl (fun _ => 0))))] ++ [(q2z, .inl (D.2.1 1, (20, .inl (fun _ => 0))))] ++ [(q3z, .inl (D.2.1 1, (20, .inl (fun _ => 0))))])) (v := .ref q3z) (ty := (.array .int)) fl_0_21 rfl rfl (by decide +kernel) rfl rfl (Nat.le_of_ble_eq_true rfl) dX0_init_33 ?_
  exact k_vret (fun k => match k with | 0 => q0z | 1 => q1z | 2 => q2z | 3 => q3z | _ => 0) rfl rfl rfl dX0_init_36
def mkX1 (D : gD) (h0 : Nat) (ad : Nat → Nat) : va_W := (h0, .inr (1, [.ref (ad 0), .int 0, .ref (ad 1), .int 0, .int 0, .int 0])) :: (([] : va_W) ++ [((ad 0), .inl (D.2.1 1, (72, .inl (fun _ => 0))))] ++ [((ad 1), .inl (D.2.1 3, (9, .inl (fun _ => 0))))])
theorem k_X1_init {l : Launch} {D : gD} (h0 : Nat) (sz : Nat) : KCt l D 2 2 81 yX1_init cX1_init 1 [.ref h0] [(h0, .inr (1, [.null, .int 0, .null, .int 0, .int 0, .int 0]))] (mkX1 D h0) sz := by
  refine KCt_of rfl (by decide) rfl (Nat.le_of_ble_eq_true rfl) (fun Γ => ?_)
  refine k_aload_n (x := h0) dX1_init_0 rfl ?_
  refine k_objInit (gw_t 135 (by decide +kernel) (by decide +kernel)) (by decide) (by decide) dX1_init_1 ?_
  refine k_aload_n (x := h0) dX1_init_4 rfl ?_
  refine k_bipush (72) dX1_init_5 rfl ?_
  refine k_newI (N := 72) (by decide) (by decide) (by decide) (by decide) (by decide) dX1_init_7 (fun q0z => ?_)
  refine k_putF (ci := 1) (j := 0) (h0 := h0) (fs := [.null, .int 0, .null, .int 0, .int 0, .int 0]) (rest := (([] : va_W) ++ [(q0z, .inl (D.2.1 1, (72, .inl (fun _ => 0))))])) (v := .ref q0z) (ty := (.array .int)) fl_1_9 rfl rfl (by decide +kernel) rfl rfl (Nat.le_of_ble_eq_true rfl) dX1_init_9 ?_
  refine k_aload_n (x := h0) dX1_init_12 rfl ?_
  refine k_bipush (9) dX1_init_13 rfl ?_
  refine k_newZ (N := 9) (by decide) (by decide) (by decide) (by decide) (by decide) dX1_init_15 (fun q1z => ?_)
  refine k_putF (ci := 1) (j := 2) (h0 := h0) (fs := [.ref q0z, .int 0, .null, .int 0, .int 0, .int 0]) (rest := (([] : va_W) ++ [(q0z, .inl (D.2.1 1, (72, .inl (fun _ => 0))))] ++ [(q1z, .inl (D.2.1 3, (9, .inl (fun _ => 0))))])) (v := .ref q1z) (ty := (.array .boolean)) fl_1_15 rfl rfl (by decide +kernel) rfl rfl (Nat.le_of_ble_eq_true rfl) dX1_init_17 ?_
  exact k_vret (fun k => match k with | 0 => q0z | 1 => q1z | _ => 0) rfl rfl rfl dX1_init_20
def mkX2 (D : gD) (h0 : Nat) (ad : Nat → Nat) : va_W := (h0, .inr (2, [.ref (ad 0), .ref (ad 1), .ref (ad 2), .ref (ad 3), .ref (ad 4), .ref (ad 5), .int 0, .int 0, .int 0, .long 0])) :: (([] : va_W) ++ [((ad 0), .inl (D.2.1 1, (64, .inl (fun _ => 0))))] ++ [((ad 1), .inl (D.2.1 1, (64, .inl (fun _ => 0))))] ++ [((ad 2), .inl (D.2.1 1, (3, .inl (fun _ => 0))))] ++ [((ad 3), .inl (D.2.1 1, (3, .inl (fun _ => 0))))] ++ [((ad 4), .inl (D.2.1 4, (64, .inr (.inl (fun _ => 0)))))] ++ [((ad 5), .inl (D.2.1 4, (7, .inr (.inl (fun _ => 0)))))])
theorem k_X2_init {l : Launch} {D : gD} (h0 : Nat) (sz : Nat) : KCt l D 2 6 205 yX2_init cX2_init 1 [.ref h0] [(h0, .inr (2, [.null, .null, .null, .null, .null, .null, .int 0, .int 0, .int 0, .long 0]))] (mkX2 D h0) sz := by
  refine KCt_of rfl (by decide) rfl (Nat.le_of_ble_eq_true rfl) (fun Γ => ?_)
  refine k_aload_n (x := h0) dX2_init_0 rfl ?_
  refine k_objInit (gw_t 191 (by decide +kernel) (by decide +kernel)) (by decide) (by decide) dX2_init_1 ?_
  refine k_aload_n (x := h0) dX2_init_4 rfl ?_
  refine k_bipush (64) dX2_init_5 rfl ?_
  refine k_newI (N := 64) (by decide) (by decide) (by decide) (by decide) (by decide) dX2_init_7 (fun q0z => ?_)
  refine k_putF (ci := 2) (j := 0) (h0 := h0) (fs := [.null, .null, .null, .null, .null, .null, .int 0, .int 0, .int 0, .long 0]) (rest := (([] : va_W) ++ [(q0z, .inl (D.2.1 1, (64, .inl (fun _ => 0))))])) (v := .ref q0z) (ty := (.array .int)) fl_2_9 rfl rfl (by decide +kernel) rfl rfl (Nat.le_of_ble_eq_true rfl) dX2_init_9 ?_
  refine k_aload_n (x := h0) dX2_init_12 rfl ?_
  refine k_bipush (64) dX2_init_13 rfl ?_
  refine k_newI (N := 64) (by decide) (by decide) (by decide) (by decide) (by decide) dX2_init_15 (fun q1z => ?_)
  refine k_putF (ci := 2) (j := 1) (h0 := h0) (fs := [.ref q0z, .null, .null, .null, .null, .null, .int 0, .int 0, .int 0, .long 0]) (rest := (([] : va_W) ++ [(q0z, .inl (D.2.1 1, (64, .inl (fun _ => 0))))] ++ [(q1z, .inl (D.2.1 1, (64, .inl (fun _ => 0))))])) (v := .ref q1z) (ty := (.array .int)) fl_2_15 rfl rfl (by decide +kernel) rfl rfl (Nat.le_of_ble_eq_true rfl) dX2_init_17 ?_
  refine k_aload_n (x := h0) dX2_init_20 rfl ?_
  refine k_iconst (3) dX2_init_21 rfl ?_
  refine k_newI (N := 3) (by decide) (by decide) (by decide) (by decide) (by decide) dX2_init_22 (fun q2z => ?_)
  refine k_putF (ci := 2) (j := 2) (h0 := h0) (fs := [.ref q0z, .ref q1z, .null, .null, .null, .null, .int 0, .int 0, .int 0, .long 0]) (rest := (([] : va_W) ++ [(q0z, .inl (D.2.1 1, (64, .inl (fun _ => 0))))] ++ [(q1z, .inl (D.2.1 1, (64, .inl (fun _ => 0))))] ++ [(q2z, .inl (D.2.1 1, (3, .inl (fun _ => 0))))])) (v := .ref q2z) (ty := (.array .int)) fl_2_18 rfl rfl (by decide +kernel) rfl rfl (Nat.le_of_ble_eq_true rfl) dX2_init_24 ?_
  refine k_aload_n (x := h0) dX2_init_27 rfl ?_
  refine k_iconst (3) dX2_init_28 rfl ?_
  refine k_newI (N := 3) (by decide) (by decide) (by decide) (by decide) (by decide) dX2_init_29 (fun q3z => ?_)
  refine k_putF (ci := 2) (j := 3) (h0 := h0) (fs := [.ref q0z, .ref q1z, .ref q2z, .null, .null, .null, .int 0, .int 0, .int 0, .long 0]) (rest := (([] : va_W) ++ [(q0z, .inl (D.2.1 1, (64, .inl (fun _ => 0))))] ++ [(q1z, .inl (D.2.1 1, (64, .inl (fun _ => 0))))] ++ [(q2z, .inl (D.2.1 1, (3, .inl (fun _ => 0))))] ++ [(q3z, .inl (D.2.1 1, (3, .inl (fun _ => 0))))])) (v := .ref q3z) (ty := (.array .int)) fl_2_21 rfl rfl (by decide +kernel) rfl rfl (Nat.le_of_ble_eq_true rfl) dX2_init_31 ?_
  refine k_aload_n (x := h0) dX2_init_34 rfl ?_
  refine k_bipush (64) dX2_init_35 rfl ?_
  refine k_newJ (N := 64) (by decide) (by decide) (by decide) (by decide) (by decide) dX2_init_37 (fun q4z => ?_)
  refine k_putF (ci := 2) (j := 4) (h0 := h0) (fs := [.ref q0z, .ref q1z, .ref q2z, .ref q3z, .null, .null, .int 0, .int 0, .int 0, .long 0]) (rest := (([] : va_W) ++ [(q0z, .inl (D.2.1 1, (64, .inl (fun _ => 0))))] ++ [(q1z, .inl (D.2.1 1, (64, .inl (fun _ => 0))))] ++ [(q2z, .inl (D.2.1 1, (3, .inl (fun _ => 0))))] ++ [(q3z, .inl (D.2.1 1, (3, .inl (fun _ => 0))))] ++ [(q4z, .inl (D.2.1 4, (64, .inr (.inl (fun _ => 0)))))])) (v := .ref q4z) (ty := (.array .long)) fl_2_24 rfl rfl (by decide +kernel) rfl rfl (Nat.le_of_ble_eq_true rfl) dX2_init_39 ?_
  refine k_aload_n (x := h0) dX2_init_42 rfl ?_
  refine k_bipush (7) dX2_init_43 rfl ?_
  refine k_newJ (N := 7) (by decide) (by decide) (by decide) (by decide) (by decide) dX2_init_45 (fun q5z => ?_)
  refine k_putF (ci := 2) (j := 5) (h0 := h0) (fs := [.ref q0z, .ref q1z, .ref q2z, .ref q3z, .ref q4z, .null, .int 0, .int 0, .int 0, .long 0]) (rest := (([] : va_W) ++ [(q0z, .inl (D.2.1 1, (64, .inl (fun _ => 0))))] ++ [(q1z, .inl (D.2.1 1, (64, .inl (fun _ => 0))))] ++ [(q2z, .inl (D.2.1 1, (3, .inl (fun _ => 0))))] ++ [(q3z, .inl (D.2.1 1, (3, .inl (fun _ => 0))))] ++ [(q4z, .inl (D.2.1 4, (64, .inr (.inl (fun _ => 0)))))] ++ [(q5z, .inl (D.2.1 4, (7, .inr (.inl (fun _ => 0)))))])) (v := .ref q5z) (ty := (.array .long)) fl_2_28 rfl rfl (by decide +kernel) rfl rfl (Nat.le_of_ble_eq_true rfl) dX2_init_47 ?_
  exact k_vret (fun k => match k with | 0 => q0z | 1 => q1z | 2 => q2z | 3 => q3z | 4 => q4z | 5 => q5z | _ => 0) rfl rfl rfl dX2_init_50
def mkX3 (D : gD) (h0 : Nat) (ad : Nat → Nat) : va_W := (h0, .inr (3, [.ref (ad 0), .ref (ad 1), .ref (ad 2), .ref (ad 3), .ref (ad 4), .ref (ad 5), .int 0, .int (-1)])) :: (([] : va_W) ++ [((ad 0), .inl (D.2.1 1, (24, .inl (fun _ => 0))))] ++ [((ad 1), .inl (D.2.1 1, (24, .inl (fun _ => 0))))] ++ [((ad 2), .inl (D.2.1 1, (24, .inl (fun _ => 0))))] ++ [((ad 3), .inl (D.2.1 3, (24, .inl (fun _ => 0))))] ++ [((ad 4), .inl (D.2.1 1, (24, .inl (fun _ => 0))))] ++ [((ad 5), .inl (D.2.1 3, (24, .inl (fun _ => 0))))])
theorem k_X3_init {l : Launch} {D : gD} (h0 : Nat) (sz : Nat) : KCt l D 2 6 144 yX3_init cX3_init 1 [.ref h0] [(h0, .inr (3, [.null, .null, .null, .null, .null, .null, .int 0, .int 0]))] (mkX3 D h0) sz := by
  refine KCt_of rfl (by decide) rfl (Nat.le_of_ble_eq_true rfl) (fun Γ => ?_)
  refine k_aload_n (x := h0) dX3_init_0 rfl ?_
  refine k_objInit (gw_t 451 (by decide +kernel) (by decide +kernel)) (by decide) (by decide) dX3_init_1 ?_
  refine k_aload_n (x := h0) dX3_init_4 rfl ?_
  refine k_bipush (24) dX3_init_5 rfl ?_
  refine k_newI (N := 24) (by decide) (by decide) (by decide) (by decide) (by decide) dX3_init_7 (fun q0z => ?_)
  refine k_putF (ci := 3) (j := 0) (h0 := h0) (fs := [.null, .null, .null, .null, .null, .null, .int 0, .int 0]) (rest := (([] : va_W) ++ [(q0z, .inl (D.2.1 1, (24, .inl (fun _ => 0))))])) (v := .ref q0z) (ty := (.array .int)) fl_3_9 rfl rfl (by decide +kernel) rfl rfl (Nat.le_of_ble_eq_true rfl) dX3_init_9 ?_
  refine k_aload_n (x := h0) dX3_init_12 rfl ?_
  refine k_bipush (24) dX3_init_13 rfl ?_
  refine k_newI (N := 24) (by decide) (by decide) (by decide) (by decide) (by decide) dX3_init_15 (fun q1z => ?_)
  refine k_putF (ci := 3) (j := 1) (h0 := h0) (fs := [.ref q0z, .null, .null, .null, .null, .null, .int 0, .int 0]) (rest := (([] : va_W) ++ [(q0z, .inl (D.2.1 1, (24, .inl (fun _ => 0))))] ++ [(q1z, .inl (D.2.1 1, (24, .inl (fun _ => 0))))])) (v := .ref q1z) (ty := (.array .int)) fl_3_15 rfl rfl (by decide +kernel) rfl rfl (Nat.le_of_ble_eq_true rfl) dX3_init_17 ?_
  refine k_aload_n (x := h0) dX3_init_20 rfl ?_
  refine k_bipush (24) dX3_init_21 rfl ?_
  refine k_newI (N := 24) (by decide) (by decide) (by decide) (by decide) (by decide) dX3_init_23 (fun q2z => ?_)
  refine k_putF (ci := 3) (j := 2) (h0 := h0) (fs := [.ref q0z, .ref q1z, .null, .null, .null, .null, .int 0, .int 0]) (rest := (([] : va_W) ++ [(q0z, .inl (D.2.1 1, (24, .inl (fun _ => 0))))] ++ [(q1z, .inl (D.2.1 1, (24, .inl (fun _ => 0))))] ++ [(q2z, .inl (D.2.1 1, (24, .inl (fun _ => 0))))])) (v := .ref q2z) (ty := (.array .int)) fl_3_18 rfl rfl (by decide +kernel) rfl rfl (Nat.le_of_ble_eq_true rfl) dX3_init_25 ?_
  refine k_aload_n (x := h0) dX3_init_28 rfl ?_
  refine k_bipush (24) dX3_init_29 rfl ?_
  refine k_newZ (N := 24) (by decide) (by decide) (by decide) (by decide) (by decide) dX3_init_31 (fun q3z => ?_)
  refine k_putF (ci := 3) (j := 3) (h0 := h0) (fs := [.ref q0z, .ref q1z, .ref q2z, .null, .null, .null, .int 0, .int 0]) (rest := (([] : va_W) ++ [(q0z, .inl (D.2.1 1, (24, .inl (fun _ => 0))))] ++ [(q1z, .inl (D.2.1 1, (24, .inl (fun _ => 0))))] ++ [(q2z, .inl (D.2.1 1, (24, .inl (fun _ => 0))))] ++ [(q3z, .inl (D.2.1 3, (24, .inl (fun _ => 0))))])) (v := .ref q3z) (ty := (.array .boolean)) fl_3_21 rfl rfl (by decide +kernel) rfl rfl (Nat.le_of_ble_eq_true rfl) dX3_init_33 ?_
  refine k_aload_n (x := h0) dX3_init_36 rfl ?_
  refine k_bipush (24) dX3_init_37 rfl ?_
  refine k_newI (N := 24) (by decide) (by decide) (by decide) (by decide) (by decide) dX3_init_39 (fun q4z => ?_)
  refine k_putF (ci := 3) (j := 4) (h0 := h0) (fs := [.ref q0z, .ref q1z, .ref q2z, .ref q3z, .null, .null, .int 0, .int 0]) (rest := (([] : va_W) ++ [(q0z, .inl (D.2.1 1, (24, .inl (fun _ => 0))))] ++ [(q1z, .inl (D.2.1 1, (24, .inl (fun _ => 0))))] ++ [(q2z, .inl (D.2.1 1, (24, .inl (fun _ => 0))))] ++ [(q3z, .inl (D.2.1 3, (24, .inl (fun _ => 0))))] ++ [(q4z, .inl (D.2.1 1, (24, .inl (fun _ => 0))))])) (v := .ref q4z) (ty := (.array .int)) fl_3_25 rfl rfl (by decide +kernel) rfl rfl (Nat.le_of_ble_eq_true rfl) dX3_init_41 ?_
  refine k_aload_n (x := h0) dX3_init_44 rfl ?_
  refine k_bipush (24) dX3_init_45 rfl ?_
  refine k_newZ (N := 24) (by decide) (by decide) (by decide) (by decide) (by decide) dX3_init_47 (fun q5z => ?_)
  refine k_putF (ci := 3) (j := 5) (h0 := h0) (fs := [.ref q0z, .ref q1z, .ref q2z, .ref q3z, .ref q4z, .null, .int 0, .int 0]) (rest := (([] : va_W) ++ [(q0z, .inl (D.2.1 1, (24, .inl (fun _ => 0))))] ++ [(q1z, .inl (D.2.1 1, (24, .inl (fun _ => 0))))] ++ [(q2z, .inl (D.2.1 1, (24, .inl (fun _ => 0))))] ++ [(q3z, .inl (D.2.1 3, (24, .inl (fun _ => 0))))] ++ [(q4z, .inl (D.2.1 1, (24, .inl (fun _ => 0))))] ++ [(q5z, .inl (D.2.1 3, (24, .inl (fun _ => 0))))])) (v := .ref q5z) (ty := (.array .boolean)) fl_3_28 rfl rfl (by decide +kernel) rfl rfl (Nat.le_of_ble_eq_true rfl) dX3_init_49 ?_
  refine k_aload_n (x := h0) dX3_init_52 rfl ?_
  refine k_iconst (-1) dX3_init_53 rfl ?_
  refine k_put (ci := 3) (j := 7) (h0 := h0) (fs := [.ref q0z, .ref q1z, .ref q2z, .ref q3z, .ref q4z, .ref q5z, .int 0, .int 0]) (rest := (([] : va_W) ++ [(q0z, .inl (D.2.1 1, (24, .inl (fun _ => 0))))] ++ [(q1z, .inl (D.2.1 1, (24, .inl (fun _ => 0))))] ++ [(q2z, .inl (D.2.1 1, (24, .inl (fun _ => 0))))] ++ [(q3z, .inl (D.2.1 3, (24, .inl (fun _ => 0))))] ++ [(q4z, .inl (D.2.1 1, (24, .inl (fun _ => 0))))] ++ [(q5z, .inl (D.2.1 3, (24, .inl (fun _ => 0))))])) (v := .int (-1)) (ty := (.int)) fl_3_31 rfl (by decide +kernel) rfl rfl (Nat.le_of_ble_eq_true rfl) dX3_init_54 ?_
  exact k_vret (fun k => match k with | 0 => q0z | 1 => q1z | 2 => q2z | 3 => q3z | 4 => q4z | 5 => q5z | _ => 0) rfl rfl rfl dX3_init_57
def mkX7 (D : gD) (h0 : Nat) (ad : Nat → Nat) : va_W := (h0, .inr (7, [.int 0, .ref (ad 0), .ref (ad 1), .ref (ad 2), .ref (ad 3), .int 0, .ref (ad 4), .ref (ad 5), .ref (ad 6), .ref (ad 7), .int 0, .ref (ad 8), .int (0), .int (7), .int 0, .int 0, .int 0, .int 0, .ref (ad 9)])) :: (([] : va_W) ++ [((ad 0), .inl (D.2.1 1, (5, .inl (fun _ => 0))))] ++ [((ad 1), .inl (D.2.1 1, (5, .inl (fun _ => 0))))] ++ [((ad 2), .inl (D.2.1 1, (5, .inl (fun _ => 0))))] ++ [((ad 3), .inl (D.2.1 1, (5, .inl (fun _ => 0))))] ++ [((ad 4), .inl (D.2.1 1, (6, .inl (fun _ => 0))))] ++ [((ad 5), .inl (D.2.1 1, (6, .inl (fun _ => 0))))] ++ [((ad 6), .inl (D.2.1 1, (6, .inl (fun _ => 0))))] ++ [((ad 7), .inl (D.2.1 1, (6, .inl (fun _ => 0))))] ++ [((ad 8), .inl (D.2.1 1, (30, .inl (fun _ => 0))))] ++ mkX2 D (ad 9) (fun k => ad (k + 10)))
theorem k_X7_init {l : Launch} {D : gD} (h0 : Nat) (sz : Nat) : KCt l D 3 16 289 yX7_init cX7_init 1 [.ref h0] [(h0, .inr (7, [.int 0, .null, .null, .null, .null, .int 0, .null, .null, .null, .null, .int 0, .null, .int 0, .int 0, .int 0, .int 0, .int 0, .int 0, .null]))] (mkX7 D h0) sz := by
  refine KCt_of rfl (by decide) rfl (Nat.le_of_ble_eq_true rfl) (fun Γ => ?_)
  refine k_aload_n (x := h0) dX7_init_0 rfl ?_
  refine k_objInit (gw_t 185 (by decide +kernel) (by decide +kernel)) (by decide) (by decide) dX7_init_1 ?_
  refine k_aload_n (x := h0) dX7_init_4 rfl ?_
  refine k_iconst (5) dX7_init_5 rfl ?_
  refine k_newI (N := 5) (by decide) (by decide) (by decide) (by decide) (by decide) dX7_init_6 (fun q0z => ?_)
  refine k_putF (ci := 7) (j := 1) (h0 := h0) (fs := [.int 0, .null, .null, .null, .null, .int 0, .null, .null, .null, .null, .int 0, .null, .int 0, .int 0, .int 0, .int 0, .int 0, .int 0, .null]) (rest := (([] : va_W) ++ [(q0z, .inl (D.2.1 1, (5, .inl (fun _ => 0))))])) (v := .ref q0z) (ty := (.array .int)) fl_7_9 rfl rfl (by decide +kernel) rfl rfl (Nat.le_of_ble_eq_true rfl) dX7_init_8 ?_
  refine k_aload_n (x := h0) dX7_init_11 rfl ?_
  refine k_iconst (5) dX7_init_12 rfl ?_
  refine k_newI (N := 5) (by decide) (by decide) (by decide) (by decide) (by decide) dX7_init_13 (fun q1z => ?_)
  refine k_putF (ci := 7) (j := 2) (h0 := h0) (fs := [.int 0, .ref q0z, .null, .null, .null, .int 0, .null, .null, .null, .null, .int 0, .null, .int 0, .int 0, .int 0, .int 0, .int 0, .int 0, .null]) (rest := (([] : va_W) ++ [(q0z, .inl (D.2.1 1, (5, .inl (fun _ => 0))))] ++ [(q1z, .inl (D.2.1 1, (5, .inl (fun _ => 0))))])) (v := .ref q1z) (ty := (.array .int)) fl_7_15 rfl rfl (by decide +kernel) rfl rfl (Nat.le_of_ble_eq_true rfl) dX7_init_15 ?_
  refine k_aload_n (x := h0) dX7_init_18 rfl ?_
  refine k_iconst (5) dX7_init_19 rfl ?_
  refine k_newI (N := 5) (by decide) (by decide) (by decide) (by decide) (by decide) dX7_init_20 (fun q2z => ?_)
  refine k_putF (ci := 7) (j := 3) (h0 := h0) (fs := [.int 0, .ref q0z, .ref q1z, .null, .null, .int 0, .null, .null, .null, .null, .int 0, .null, .int 0, .int 0, .int 0, .int 0, .int 0, .int 0, .null]) (rest := (([] : va_W) ++ [(q0z, .inl (D.2.1 1, (5, .inl (fun _ => 0))))] ++ [(q1z, .inl (D.2.1 1, (5, .inl (fun _ => 0))))] ++ [(q2z, .inl (D.2.1 1, (5, .inl (fun _ => 0))))])) (v := .ref q2z) (ty := (.array .int)) fl_7_18 rfl rfl (by decide +kernel) rfl rfl (Nat.le_of_ble_eq_true rfl) dX7_init_22 ?_
  refine k_aload_n (x := h0) dX7_init_25 rfl ?_
  refine k_iconst (5) dX7_init_26 rfl ?_
  refine k_newI (N := 5) (by decide) (by decide) (by decide) (by decide) (by decide) dX7_init_27 (fun q3z => ?_)
  refine k_putF (ci := 7) (j := 4) (h0 := h0) (fs := [.int 0, .ref q0z, .ref q1z, .ref q2z, .null, .int 0, .null, .null, .null, .null, .int 0, .null, .int 0, .int 0, .int 0, .int 0, .int 0, .int 0, .null]) (rest := (([] : va_W) ++ [(q0z, .inl (D.2.1 1, (5, .inl (fun _ => 0))))] ++ [(q1z, .inl (D.2.1 1, (5, .inl (fun _ => 0))))] ++ [(q2z, .inl (D.2.1 1, (5, .inl (fun _ => 0))))] ++ [(q3z, .inl (D.2.1 1, (5, .inl (fun _ => 0))))])) (v := .ref q3z) (ty := (.array .int)) fl_7_21 rfl rfl (by decide +kernel) rfl rfl (Nat.le_of_ble_eq_true rfl) dX7_init_29 ?_
  refine k_aload_n (x := h0) dX7_init_32 rfl ?_
  refine k_bipush (6) dX7_init_33 rfl ?_
  refine k_newI (N := 6) (by decide) (by decide) (by decide) (by decide) (by decide) dX7_init_35 (fun q4z => ?_)
  refine k_putF (ci := 7) (j := 6) (h0 := h0) (fs := [.int 0, .ref q0z, .ref q1z, .ref q2z, .ref q3z, .int 0, .null, .null, .null, .null, .int 0, .null, .int 0, .int 0, .int 0, .int 0, .int 0, .int 0, .null]) (rest := (([] : va_W) ++ [(q0z, .inl (D.2.1 1, (5, .inl (fun _ => 0))))] ++ [(q1z, .inl (D.2.1 1, (5, .inl (fun _ => 0))))] ++ [(q2z, .inl (D.2.1 1, (5, .inl (fun _ => 0))))] ++ [(q3z, .inl (D.2.1 1, (5, .inl (fun _ => 0))))] ++ [(q4z, .inl (D.2.1 1, (6, .inl (fun _ => 0))))])) (v := .ref q4z) (ty := (.array .int)) fl_7_24 rfl rfl (by decide +kernel) rfl rfl (Nat.le_of_ble_eq_true rfl) dX7_init_37 ?_
  refine k_aload_n (x := h0) dX7_init_40 rfl ?_
  refine k_bipush (6) dX7_init_41 rfl ?_
  refine k_newI (N := 6) (by decide) (by decide) (by decide) (by decide) (by decide) dX7_init_43 (fun q5z => ?_)
  refine k_putF (ci := 7) (j := 7) (h0 := h0) (fs := [.int 0, .ref q0z, .ref q1z, .ref q2z, .ref q3z, .int 0, .ref q4z, .null, .null, .null, .int 0, .null, .int 0, .int 0, .int 0, .int 0, .int 0, .int 0, .null]) (rest := (([] : va_W) ++ [(q0z, .inl (D.2.1 1, (5, .inl (fun _ => 0))))] ++ [(q1z, .inl (D.2.1 1, (5, .inl (fun _ => 0))))] ++ [(q2z, .inl (D.2.1 1, (5, .inl (fun _ => 0))))] ++ [(q3z, .inl (D.2.1 1, (5, .inl (fun _ => 0))))] ++ [(q4z, .inl (D.2.1 1, (6, .inl (fun _ => 0))))] ++ [(q5z, .inl (D.2.1 1, (6, .inl (fun _ => 0))))])) (v := .ref q5z) (ty := (.array .int)) fl_7_27 rfl rfl (by decide +kernel) rfl rfl (Nat.le_of_ble_eq_true rfl) dX7_init_45 ?_
  refine k_aload_n (x := h0) dX7_init_48 rfl ?_
  refine k_bipush (6) dX7_init_49 rfl ?_
  refine k_newI (N := 6) (by decide) (by decide) (by decide) (by decide) (by decide) dX7_init_51 (fun q6z => ?_)
  refine k_putF (ci := 7) (j := 8) (h0 := h0) (fs := [.int 0, .ref q0z, .ref q1z, .ref q2z, .ref q3z, .int 0, .ref q4z, .ref q5z, .null, .null, .int 0, .null, .int 0, .int 0, .int 0, .int 0, .int 0, .int 0, .null]) (rest := (([] : va_W) ++ [(q0z, .inl (D.2.1 1, (5, .inl (fun _ => 0))))] ++ [(q1z, .inl (D.2.1 1, (5, .inl (fun _ => 0))))] ++ [(q2z, .inl (D.2.1 1, (5, .inl (fun _ => 0))))] ++ [(q3z, .inl (D.2.1 1, (5, .inl (fun _ => 0))))] ++ [(q4z, .inl (D.2.1 1, (6, .inl (fun _ => 0))))] ++ [(q5z, .inl (D.2.1 1, (6, .inl (fun _ => 0))))] ++ [(q6z, .inl (D.2.1 1, (6, .inl (fun _ => 0))))])) (v := .ref q6z) (ty := (.array .int)) fl_7_30 rfl rfl (by decide +kernel) rfl rfl (Nat.le_of_ble_eq_true rfl) dX7_init_53 ?_
  refine k_aload_n (x := h0) dX7_init_56 rfl ?_
  refine k_bipush (6) dX7_init_57 rfl ?_
  refine k_newI (N := 6) (by decide) (by decide) (by decide) (by decide) (by decide) dX7_init_59 (fun q7z => ?_)
  refine k_putF (ci := 7) (j := 9) (h0 := h0) (fs := [.int 0, .ref q0z, .ref q1z, .ref q2z, .ref q3z, .int 0, .ref q4z, .ref q5z, .ref q6z, .null, .int 0, .null, .int 0, .int 0, .int 0, .int 0, .int 0, .int 0, .null]) (rest := (([] : va_W) ++ [(q0z, .inl (D.2.1 1, (5, .inl (fun _ => 0))))] ++ [(q1z, .inl (D.2.1 1, (5, .inl (fun _ => 0))))] ++ [(q2z, .inl (D.2.1 1, (5, .inl (fun _ => 0))))] ++ [(q3z, .inl (D.2.1 1, (5, .inl (fun _ => 0))))] ++ [(q4z, .inl (D.2.1 1, (6, .inl (fun _ => 0))))] ++ [(q5z, .inl (D.2.1 1, (6, .inl (fun _ => 0))))] ++ [(q6z, .inl (D.2.1 1, (6, .inl (fun _ => 0))))] ++ [(q7z, .inl (D.2.1 1, (6, .inl (fun _ => 0))))])) (v := .ref q7z) (ty := (.array .int)) fl_7_33 rfl rfl (by decide +kernel) rfl rfl (Nat.le_of_ble_eq_true rfl) dX7_init_61 ?_
  refine k_aload_n (x := h0) dX7_init_64 rfl ?_
  refine k_bipush (30) dX7_init_65 rfl ?_
  refine k_newI (N := 30) (by decide) (by decide) (by decide) (by decide) (by decide) dX7_init_67 (fun q8z => ?_)
  refine k_putF (ci := 7) (j := 11) (h0 := h0) (fs := [.int 0, .ref q0z, .ref q1z, .ref q2z, .ref q3z, .int 0, .ref q4z, .ref q5z, .ref q6z, .ref q7z, .int 0, .null, .int 0, .int 0, .int 0, .int 0, .int 0, .int 0, .null]) (rest := (([] : va_W) ++ [(q0z, .inl (D.2.1 1, (5, .inl (fun _ => 0))))] ++ [(q1z, .inl (D.2.1 1, (5, .inl (fun _ => 0))))] ++ [(q2z, .inl (D.2.1 1, (5, .inl (fun _ => 0))))] ++ [(q3z, .inl (D.2.1 1, (5, .inl (fun _ => 0))))] ++ [(q4z, .inl (D.2.1 1, (6, .inl (fun _ => 0))))] ++ [(q5z, .inl (D.2.1 1, (6, .inl (fun _ => 0))))] ++ [(q6z, .inl (D.2.1 1, (6, .inl (fun _ => 0))))] ++ [(q7z, .inl (D.2.1 1, (6, .inl (fun _ => 0))))] ++ [(q8z, .inl (D.2.1 1, (30, .inl (fun _ => 0))))])) (v := .ref q8z) (ty := (.array .int)) fl_7_36 rfl rfl (by decide +kernel) rfl rfl (Nat.le_of_ble_eq_true rfl) dX7_init_69 ?_
  refine k_aload_n (x := h0) dX7_init_72 rfl ?_
  refine k_iconst (0) dX7_init_73 rfl ?_
  refine k_put (ci := 7) (j := 12) (h0 := h0) (fs := [.int 0, .ref q0z, .ref q1z, .ref q2z, .ref q3z, .int 0, .ref q4z, .ref q5z, .ref q6z, .ref q7z, .int 0, .ref q8z, .int 0, .int 0, .int 0, .int 0, .int 0, .int 0, .null]) (rest := (([] : va_W) ++ [(q0z, .inl (D.2.1 1, (5, .inl (fun _ => 0))))] ++ [(q1z, .inl (D.2.1 1, (5, .inl (fun _ => 0))))] ++ [(q2z, .inl (D.2.1 1, (5, .inl (fun _ => 0))))] ++ [(q3z, .inl (D.2.1 1, (5, .inl (fun _ => 0))))] ++ [(q4z, .inl (D.2.1 1, (6, .inl (fun _ => 0))))] ++ [(q5z, .inl (D.2.1 1, (6, .inl (fun _ => 0))))] ++ [(q6z, .inl (D.2.1 1, (6, .inl (fun _ => 0))))] ++ [(q7z, .inl (D.2.1 1, (6, .inl (fun _ => 0))))] ++ [(q8z, .inl (D.2.1 1, (30, .inl (fun _ => 0))))])) (v := .int (0)) (ty := (.int)) fl_7_39 rfl (by decide +kernel) rfl rfl (Nat.le_of_ble_eq_true rfl) dX7_init_74 ?_
  refine k_aload_n (x := h0) dX7_init_77 rfl ?_
  refine k_bipush (7) dX7_init_78 rfl ?_
  refine k_put (ci := 7) (j := 13) (h0 := h0) (fs := [.int 0, .ref q0z, .ref q1z, .ref q2z, .ref q3z, .int 0, .ref q4z, .ref q5z, .ref q6z, .ref q7z, .int 0, .ref q8z, .int (0), .int 0, .int 0, .int 0, .int 0, .int 0, .null]) (rest := (([] : va_W) ++ [(q0z, .inl (D.2.1 1, (5, .inl (fun _ => 0))))] ++ [(q1z, .inl (D.2.1 1, (5, .inl (fun _ => 0))))] ++ [(q2z, .inl (D.2.1 1, (5, .inl (fun _ => 0))))] ++ [(q3z, .inl (D.2.1 1, (5, .inl (fun _ => 0))))] ++ [(q4z, .inl (D.2.1 1, (6, .inl (fun _ => 0))))] ++ [(q5z, .inl (D.2.1 1, (6, .inl (fun _ => 0))))] ++ [(q6z, .inl (D.2.1 1, (6, .inl (fun _ => 0))))] ++ [(q7z, .inl (D.2.1 1, (6, .inl (fun _ => 0))))] ++ [(q8z, .inl (D.2.1 1, (30, .inl (fun _ => 0))))])) (v := .int (7)) (ty := (.int)) fl_7_43 rfl (by decide +kernel) rfl rfl (Nat.le_of_ble_eq_true rfl) dX7_init_80 ?_
  refine k_aload_n (x := h0) dX7_init_83 rfl ?_
  refine k_new (ci := 2) (N := 10) (fs := [.null, .null, .null, .null, .null, .null, .int 0, .int 0, .int 0, .long 0]) ob_2 rfl (gw_t 186 (by decide +kernel) (by decide +kernel)) (gw_t 187 (by decide +kernel) (by decide +kernel)) (gw_t 10 (by decide +kernel) (by decide +kernel)) (by decide) (by decide) (by decide) dX7_init_84 (fun q9z => ?_)
  refine k_dup dX7_init_87 rfl ?_
  refine k_ws (ws' := ((h0, .inr (7, [.int 0, .ref q0z, .ref q1z, .ref q2z, .ref q3z, .int 0, .ref q4z, .ref q5z, .ref q6z, .ref q7z, .int 0, .ref q8z, .int (0), .int (7), .int 0, .int 0, .int 0, .int 0, .null])) :: (([] : va_W) ++ [(q0z, .inl (D.2.1 1, (5, .inl (fun _ => 0))))] ++ [(q1z, .inl (D.2.1 1, (5, .inl (fun _ => 0))))] ++ [(q2z, .inl (D.2.1 1, (5, .inl (fun _ => 0))))] ++ [(q3z, .inl (D.2.1 1, (5, .inl (fun _ => 0))))] ++ [(q4z, .inl (D.2.1 1, (6, .inl (fun _ => 0))))] ++ [(q5z, .inl (D.2.1 1, (6, .inl (fun _ => 0))))] ++ [(q6z, .inl (D.2.1 1, (6, .inl (fun _ => 0))))] ++ [(q7z, .inl (D.2.1 1, (6, .inl (fun _ => 0))))] ++ [(q8z, .inl (D.2.1 1, (30, .inl (fun _ => 0))))])) ++ [(q9z, .inr (2, [.null, .null, .null, .null, .null, .null, .int 0, .int 0, .int 0, .long 0]))]) rfl ?_
  refine k_callIN (own := RX7) (cc := cX7_init) (nL := 1) (R := krm 3 16 289) (mc := 16) (ms := 289) (kc := 10) (ks := 84) (pc := 88) (lv := lv_args 0 [.ref h0]) (ws := (h0, .inr (7, [.int 0, .ref q0z, .ref q1z, .ref q2z, .ref q3z, .int 0, .ref q4z, .ref q5z, .ref q6z, .ref q7z, .int 0, .ref q8z, .int (0), .int (7), .int 0, .int 0, .int 0, .int 0, .null])) :: (([] : va_W) ++ [(q0z, .inl (D.2.1 1, (5, .inl (fun _ => 0))))] ++ [(q1z, .inl (D.2.1 1, (5, .inl (fun _ => 0))))] ++ [(q2z, .inl (D.2.1 1, (5, .inl (fun _ => 0))))] ++ [(q3z, .inl (D.2.1 1, (5, .inl (fun _ => 0))))] ++ [(q4z, .inl (D.2.1 1, (6, .inl (fun _ => 0))))] ++ [(q5z, .inl (D.2.1 1, (6, .inl (fun _ => 0))))] ++ [(q6z, .inl (D.2.1 1, (6, .inl (fun _ => 0))))] ++ [(q7z, .inl (D.2.1 1, (6, .inl (fun _ => 0))))] ++ [(q8z, .inl (D.2.1 1, (30, .inl (fun _ => 0))))])) (q := q9z) (As := []) (rest := [.ref q9z, .ref h0]) co_X2_init rfl (gw_t 189 (by decide +kernel) (by decide +kernel)) (gw_t 10 (by decide +kernel) (by decide +kernel)) (by decide +kernel) ⟨by decide +kernel, by decide +kernel, by decide +kernel⟩ (fun sz => k_X2_init q9z sz) ⟨by decide, by decide⟩ rfl rfl (Nat.le_of_ble_eq_true rfl) ⟨by decide, by decide⟩ dX7_init_88 (fun a10z => ?_)
  refine k_putF (ci := 7) (j := 18) (h0 := h0) (fs := [.int 0, .ref q0z, .ref q1z, .ref q2z, .ref q3z, .int 0, .ref q4z, .ref q5z, .ref q6z, .ref q7z, .int 0, .ref q8z, .int (0), .int (7), .int 0, .int 0, .int 0, .int 0, .null]) (rest := (([] : va_W) ++ [(q0z, .inl (D.2.1 1, (5, .inl (fun _ => 0))))] ++ [(q1z, .inl (D.2.1 1, (5, .inl (fun _ => 0))))] ++ [(q2z, .inl (D.2.1 1, (5, .inl (fun _ => 0))))] ++ [(q3z, .inl (D.2.1 1, (5, .inl (fun _ => 0))))] ++ [(q4z, .inl (D.2.1 1, (6, .inl (fun _ => 0))))] ++ [(q5z, .inl (D.2.1 1, (6, .inl (fun _ => 0))))] ++ [(q6z, .inl (D.2.1 1, (6, .inl (fun _ => 0))))] ++ [(q7z, .inl (D.2.1 1, (6, .inl (fun _ => 0))))] ++ [(q8z, .inl (D.2.1 1, (30, .inl (fun _ => 0))))] ++ mkX2 D q9z a10z)) (v := .ref q9z) (ty := (.object "WristGoal$Laws")) fl_7_49 rfl rfl (by decide +kernel) rfl rfl (Nat.le_of_ble_eq_true rfl) dX7_init_91 ?_
  exact k_vret (fun k => match k with | 0 => q0z | 1 => q1z | 2 => q2z | 3 => q3z | 4 => q4z | 5 => q5z | 6 => q6z | 7 => q7z | 8 => q8z | 9 => q9z | 10 => (a10z 0) | 11 => (a10z 1) | 12 => (a10z 2) | 13 => (a10z 3) | 14 => (a10z 4) | 15 => (a10z 5) | _ => 0) rfl rfl rfl dX7_init_94
def mkX5 (D : gD) (h0 : Nat) (tk : Nat) (ad : Nat → Nat) : va_W := (h0, .inr (5, [.ref tk, .ref (ad 0), .ref (ad 3), .null, .int 0, .int (0), .int (-1)])) :: (([] : va_W) ++ mkX1 D (ad 0) (fun k => ad (k + 1)) ++ [((ad 3), .inl (D.2.1 3, (4, .inl (fun _ => 0))))])
theorem k_X5_init {l : Launch} {D : gD} (h0 : Nat) (tk : Nat) (sz : Nat) : KCt l D 3 4 91 yX5_init cX5_init 2 [.ref h0, .ref tk] [(h0, .inr (5, [.null, .null, .null, .null, .int 0, .int 0, .int 0]))] (mkX5 D h0 tk) sz := by
  refine KCt_of rfl (by decide) rfl (Nat.le_of_ble_eq_true rfl) (fun Γ => ?_)
  refine k_aload_n (x := h0) dX5_init_0 rfl ?_
  refine k_objInit (gw_t 129 (by decide +kernel) (by decide +kernel)) (by decide) (by decide) dX5_init_1 ?_
  refine k_aload_n (x := h0) dX5_init_4 rfl ?_
  refine k_new (ci := 1) (N := 6) (fs := [.null, .int 0, .null, .int 0, .int 0, .int 0]) ob_1 rfl (gw_t 130 (by decide +kernel) (by decide +kernel)) (gw_t 131 (by decide +kernel) (by decide +kernel)) (gw_t 8 (by decide +kernel) (by decide +kernel)) (by decide) (by decide) (by decide) dX5_init_5 (fun q0z => ?_)
  refine k_dup dX5_init_8 rfl ?_
  refine k_ws (ws' := ((h0, .inr (5, [.null, .null, .null, .null, .int 0, .int 0, .int 0])) :: (([] : va_W))) ++ [(q0z, .inr (1, [.null, .int 0, .null, .int 0, .int 0, .int 0]))]) rfl ?_
  refine k_callIN (own := RX5) (cc := cX5_init) (nL := 2) (R := krm 3 4 91) (mc := 4) (ms := 91) (kc := 1) (ks := 6) (pc := 9) (lv := lv_args 0 [.ref h0, .ref tk]) (ws := (h0, .inr (5, [.null, .null, .null, .null, .int 0, .int 0, .int 0])) :: (([] : va_W))) (q := q0z) (As := []) (rest := [.ref q0z, .ref h0]) co_X1_init rfl (gw_t 133 (by decide +kernel) (by decide +kernel)) (gw_t 8 (by decide +kernel) (by decide +kernel)) (by decide +kernel) ⟨by decide +kernel, by decide +kernel, by decide +kernel⟩ (fun sz => k_X1_init q0z sz) ⟨by decide, by decide⟩ rfl rfl (Nat.le_of_ble_eq_true rfl) ⟨by decide, by decide⟩ dX5_init_9 (fun a1z => ?_)
  refine k_putF (ci := 5) (j := 1) (h0 := h0) (fs := [.null, .null, .null, .null, .int 0, .int 0, .int 0]) (rest := (([] : va_W) ++ mkX1 D q0z a1z)) (v := .ref q0z) (ty := (.object "WristGoal$Formula")) fl_5_12 rfl rfl (by decide +kernel) rfl rfl (Nat.le_of_ble_eq_true rfl) dX5_init_12 ?_
  refine k_aload_n (x := h0) dX5_init_15 rfl ?_
  refine k_iconst (4) dX5_init_16 rfl ?_
  refine k_newZ (N := 4) (by decide) (by decide) (by decide) (by decide) (by decide) dX5_init_17 (fun q2z => ?_)
  refine k_putF (ci := 5) (j := 2) (h0 := h0) (fs := [.null, .ref q0z, .null, .null, .int 0, .int 0, .int 0]) (rest := (([] : va_W) ++ mkX1 D q0z a1z ++ [(q2z, .inl (D.2.1 3, (4, .inl (fun _ => 0))))])) (v := .ref q2z) (ty := (.array .boolean)) fl_5_18 rfl rfl (by decide +kernel) rfl rfl (Nat.le_of_ble_eq_true rfl) dX5_init_19 ?_
  refine k_aload_n (x := h0) dX5_init_22 rfl ?_
  refine k_iconst (0) dX5_init_23 rfl ?_
  refine k_put (ci := 5) (j := 5) (h0 := h0) (fs := [.null, .ref q0z, .ref q2z, .null, .int 0, .int 0, .int 0]) (rest := (([] : va_W) ++ mkX1 D q0z a1z ++ [(q2z, .inl (D.2.1 3, (4, .inl (fun _ => 0))))])) (v := .int (0)) (ty := (.int)) fl_5_22 rfl (by decide +kernel) rfl rfl (Nat.le_of_ble_eq_true rfl) dX5_init_24 ?_
  refine k_aload_n (x := h0) dX5_init_27 rfl ?_
  refine k_iconst (-1) dX5_init_28 rfl ?_
  refine k_put (ci := 5) (j := 6) (h0 := h0) (fs := [.null, .ref q0z, .ref q2z, .null, .int 0, .int (0), .int 0]) (rest := (([] : va_W) ++ mkX1 D q0z a1z ++ [(q2z, .inl (D.2.1 3, (4, .inl (fun _ => 0))))])) (v := .int (-1)) (ty := (.int)) fl_5_26 rfl (by decide +kernel) rfl rfl (Nat.le_of_ble_eq_true rfl) dX5_init_29 ?_
  refine k_aload_n (x := h0) dX5_init_32 rfl ?_
  refine k_aload_n (x := tk) dX5_init_33 rfl ?_
  refine k_putF (ci := 5) (j := 0) (h0 := h0) (fs := [.null, .ref q0z, .ref q2z, .null, .int 0, .int (0), .int (-1)]) (rest := (([] : va_W) ++ mkX1 D q0z a1z ++ [(q2z, .inl (D.2.1 3, (4, .inl (fun _ => 0))))])) (v := .ref tk) (ty := (.object "WristGoal$Tokens")) fl_5_29 rfl rfl (by decide +kernel) rfl rfl (Nat.le_of_ble_eq_true rfl) dX5_init_34 ?_
  exact k_vret (fun k => match k with | 0 => q0z | 1 => (a1z 0) | 2 => (a1z 1) | 3 => q2z | _ => 0) rfl rfl rfl dX5_init_37
