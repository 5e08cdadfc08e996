/-! World's constructor -/
def mkX8 (D : gD) (h0 : Nat) (ad : Nat → Nat) : va_W := (h0, .inr (8, [.ref (ad 0), .int 0, .int 0, .long 0, .int (-1), .int (-1), .int (-1), .int 0])) :: (([] : va_W) ++ [(ad 0, .inl (D.2.1 5, 5, .inr (.inr (.inr (.inr (va_up (va_up (va_up (va_up (va_up (fun _ => none) (0 : Int32).toNatClampNeg (some (ad 1))) (1 : Int32).toNatClampNeg (some (ad 3))) (2 : Int32).toNatClampNeg (some (ad 5))) (3 : Int32).toNatClampNeg (some (ad 7))) (4 : Int32).toNatClampNeg (some (ad 9))))))))] ++ mkX4 D (ad 1) (fun k => ad (k + 2)) ++ mkX4 D (ad 3) (fun k => ad (k + 4)) ++ mkX4 D (ad 5) (fun k => ad (k + 6)) ++ mkX4 D (ad 7) (fun k => ad (k + 8)) ++ mkX4 D (ad 9) (fun k => ad (k + 10)))
theorem k_X8_init {l : Launch} {D : gD} (h0 : Nat) (sz : Nat) : KCt l D 3 11 95 yX8_init cX8_init 2 [.ref h0] [(h0, .inr (8, [.null, .int 0, .int 0, .long 0, .int 0, .int 0, .int 0, .int 0]))] (mkX8 D h0) sz := by
  refine KCt_of rfl (by decide) rfl (Nat.le_of_ble_eq_true rfl) (fun Γ => ?_)
  refine k_aload_n (x := h0) dX8_init_0 rfl ?_
  refine k_objInit (gw_t 337 (by decide +kernel) (by decide +kernel)) (by decide) (by decide) dX8_init_1 ?_
  refine k_aload_n (x := h0) dX8_init_4 rfl ?_
  refine k_iconst 5 dX8_init_5 rfl ?_
  refine k_anew (N := 5) (gw_t 338 (by decide +kernel) (by decide +kernel)) (by decide) (by decide) (by decide) (by decide) (by decide) dX8_init_6 (fun qa => ?_)
  refine k_putF (ci := 8) (j := 0) (h0 := h0) (fs := [.null, .int 0, .int 0, .long 0, .int 0, .int 0, .int 0, .int 0]) (rest := (([] : va_W) ++ [(qa, .inl (D.2.1 5, 5, .inr (.inr (.inr (.inr (fun _ => none))))))])) (v := .ref qa) (ty := (.array (.object "WristGoal$Person"))) fl_8_11 rfl rfl (by decide +kernel) rfl rfl (Nat.le_of_ble_eq_true rfl) dX8_init_9 ?_
  refine k_aload_n (x := h0) dX8_init_12 rfl ?_
  refine k_iconst (-1) dX8_init_13 rfl ?_
  refine k_put (ci := 8) (j := 4) (h0 := h0) (fs := [.ref qa, .int 0, .int 0, .long 0, .int 0, .int 0, .int 0, .int 0]) (rest := (([] : va_W) ++ [(qa, .inl (D.2.1 5, 5, .inr (.inr (.inr (.inr (fun _ => none))))))])) (v := .int (-1)) (ty := .int) fl_8_17 rfl (by decide +kernel) rfl rfl (Nat.le_of_ble_eq_true rfl) dX8_init_14 ?_
  refine k_aload_n (x := h0) dX8_init_17 rfl ?_
  refine k_iconst (-1) dX8_init_18 rfl ?_
  refine k_put (ci := 8) (j := 5) (h0 := h0) (fs := [.ref qa, .int 0, .int 0, .long 0, .int (-1), .int 0, .int 0, .int 0]) (rest := (([] : va_W) ++ [(qa, .inl (D.2.1 5, 5, .inr (.inr (.inr (.inr (fun _ => none))))))])) (v := .int (-1)) (ty := .int) fl_8_21 rfl (by decide +kernel) rfl rfl (Nat.le_of_ble_eq_true rfl) dX8_init_19 ?_
  refine k_aload_n (x := h0) dX8_init_22 rfl ?_
  refine k_iconst (-1) dX8_init_23 rfl ?_
  refine k_put (ci := 8) (j := 6) (h0 := h0) (fs := [.ref qa, .int 0, .int 0, .long 0, .int (-1), .int (-1), .int 0, .int 0]) (rest := (([] : va_W) ++ [(qa, .inl (D.2.1 5, 5, .inr (.inr (.inr (.inr (fun _ => none))))))])) (v := .int (-1)) (ty := .int) fl_8_24 rfl (by decide +kernel) rfl rfl (Nat.le_of_ble_eq_true rfl) dX8_init_24 ?_
  refine k_iconst 0 dX8_init_27 rfl ?_
  refine k_istore_n dX8_init_28 (by decide) (k_lv (lv' := [(1, .int 0), (0, .ref h0)]) rfl ?_)
  refine k_iload_n (x := 0) dX8_init_29 rfl ?_
  refine k_iconst 5 dX8_init_30 rfl ?_
  refine k_icmp_ge (tgt := 53) dX8_init_31 rfl (fun h => absurd h (by decide)) (fun _ => ?_)
  refine k_aload_n (x := h0) dX8_init_34 rfl ?_
  refine k_ws (ws' := (h0, .inr (8, [.ref qa, .int 0, .int 0, .long 0, .int (-1), .int (-1), .int (-1), .int 0])) :: (([] : va_W) ++ [(qa, .inl (D.2.1 5, 5, .inr (.inr (.inr (.inr (fun _ => none))))))])) rfl ?_
  refine k_getR (ci := 8) (j := 0) (q := qa) fl_8_11 rfl dX8_init_35 ?_
  refine k_iload_n (x := 0) dX8_init_38 rfl ?_
  refine k_new (ci := 4) (N := 12) (fs := [.int 0, .int 0, .int 0, .int 0, .int 0, .int 0, .int 0, .int 0, .int 0, .int 0, .int 0, .null]) ob_4 rfl (gw_t 338 (by decide +kernel) (by decide +kernel)) (gw_t 340 (by decide +kernel) (by decide +kernel)) (gw_t 12 (by decide +kernel) (by decide +kernel)) (by decide) (by decide) (by decide) dX8_init_39 (fun p0z => ?_)
  refine k_dup dX8_init_42 rfl ?_
  refine k_callIN (own := RX8) (cc := cX8_init) (nL := 2) (R := krm 3 11 95) (mc := 11) (ms := 95) (kc := 2) (ks := 17) (pc := 43) (lv := [(1, .int 0), (0, .ref h0)]) (ws := (h0, .inr (8, [.ref qa, .int 0, .int 0, .long 0, .int (-1), .int (-1), .int (-1), .int 0])) :: (([] : va_W) ++ [(qa, .inl (D.2.1 5, 5, .inr (.inr (.inr (.inr (fun _ => none))))))])) (q := p0z) (As := []) (rest := [.ref p0z, .int 0, .ref qa]) co_X4_init rfl (gw_t 342 (by decide +kernel) (by decide +kernel)) (gw_t 12 (by decide +kernel) (by decide +kernel)) (by decide +kernel) ⟨by decide +kernel, by decide +kernel, by decide +kernel⟩ (fun sz => k_X4_init p0z sz) ⟨by decide, by decide⟩ rfl rfl (Nat.le_of_ble_eq_true rfl) ⟨by decide, by decide⟩ dX8_init_43 (fun b0z => ?_)
  refine k_ws (ws' := (h0, .inr (8, [.ref qa, .int 0, .int 0, .long 0, .int (-1), .int (-1), .int (-1), .int 0])) :: (([] : va_W) ++ [(qa, .inl (D.2.1 5, 5, .inr (.inr (.inr (.inr (fun _ => none))))))] ++ mkX4 D p0z b0z)) rfl ?_
  refine k_aast (N := 5) (i := 0) 1 2 rfl rfl (vp_in_nI (n := 0) (N := 5) (by omega) (by decide)) dX8_init_46 ?_
  refine k_iinc dX8_init_47 rfl (by decide) ?_
  refine k_goto (tgt := 29) dX8_init_50 rfl (k_lv (lv' := [(1, .int 1), (0, .ref h0)]) rfl ?_)
  refine k_iload_n (x := 1) dX8_init_29 rfl ?_
  refine k_iconst 5 dX8_init_30 rfl ?_
  refine k_icmp_ge (tgt := 53) dX8_init_31 rfl (fun h => absurd h (by decide)) (fun _ => ?_)
  refine k_aload_n (x := h0) dX8_init_34 rfl ?_
  refine k_ws (ws' := (h0, .inr (8, [.ref qa, .int 0, .int 0, .long 0, .int (-1), .int (-1), .int (-1), .int 0])) :: (([] : va_W) ++ [(qa, .inl (D.2.1 5, 5, .inr (.inr (.inr (.inr (va_up (fun _ => none) (0 : Int32).toNatClampNeg (some p0z)))))))] ++ mkX4 D p0z b0z)) rfl ?_
  refine k_getR (ci := 8) (j := 0) (q := qa) fl_8_11 rfl dX8_init_35 ?_
  refine k_iload_n (x := 1) dX8_init_38 rfl ?_
  refine k_new (ci := 4) (N := 12) (fs := [.int 0, .int 0, .int 0, .int 0, .int 0, .int 0, .int 0, .int 0, .int 0, .int 0, .int 0, .null]) ob_4 rfl (gw_t 338 (by decide +kernel) (by decide +kernel)) (gw_t 340 (by decide +kernel) (by decide +kernel)) (gw_t 12 (by decide +kernel) (by decide +kernel)) (by decide) (by decide) (by decide) dX8_init_39 (fun p1z => ?_)
  refine k_dup dX8_init_42 rfl ?_
  refine k_callIN (own := RX8) (cc := cX8_init) (nL := 2) (R := krm 3 11 95) (mc := 11) (ms := 95) (kc := 4) (ks := 35) (pc := 43) (lv := [(1, .int 1), (0, .ref h0)]) (ws := (h0, .inr (8, [.ref qa, .int 0, .int 0, .long 0, .int (-1), .int (-1), .int (-1), .int 0])) :: (([] : va_W) ++ [(qa, .inl (D.2.1 5, 5, .inr (.inr (.inr (.inr (va_up (fun _ => none) (0 : Int32).toNatClampNeg (some p0z)))))))] ++ mkX4 D p0z b0z)) (q := p1z) (As := []) (rest := [.ref p1z, .int 1, .ref qa]) co_X4_init rfl (gw_t 342 (by decide +kernel) (by decide +kernel)) (gw_t 12 (by decide +kernel) (by decide +kernel)) (by decide +kernel) ⟨by decide +kernel, by decide +kernel, by decide +kernel⟩ (fun sz => k_X4_init p1z sz) ⟨by decide, by decide⟩ rfl rfl (Nat.le_of_ble_eq_true rfl) ⟨by decide, by decide⟩ dX8_init_43 (fun b1z => ?_)
  refine k_ws (ws' := (h0, .inr (8, [.ref qa, .int 0, .int 0, .long 0, .int (-1), .int (-1), .int (-1), .int 0])) :: (([] : va_W) ++ [(qa, .inl (D.2.1 5, 5, .inr (.inr (.inr (.inr (va_up (fun _ => none) (0 : Int32).toNatClampNeg (some p0z)))))))] ++ mkX4 D p0z b0z ++ mkX4 D p1z b1z)) rfl ?_
  refine k_aast (N := 5) (i := 1) 1 4 rfl rfl (vp_in_nI (n := 1) (N := 5) (by omega) (by decide)) dX8_init_46 ?_
  refine k_iinc dX8_init_47 rfl (by decide) ?_
  refine k_goto (tgt := 29) dX8_init_50 rfl (k_lv (lv' := [(1, .int 2), (0, .ref h0)]) rfl ?_)
  refine k_iload_n (x := 2) dX8_init_29 rfl ?_
  refine k_iconst 5 dX8_init_30 rfl ?_
  refine k_icmp_ge (tgt := 53) dX8_init_31 rfl (fun h => absurd h (by decide)) (fun _ => ?_)
  refine k_aload_n (x := h0) dX8_init_34 rfl ?_
  refine k_ws (ws' := (h0, .inr (8, [.ref qa, .int 0, .int 0, .long 0, .int (-1), .int (-1), .int (-1), .int 0])) :: (([] : va_W) ++ [(qa, .inl (D.2.1 5, 5, .inr (.inr (.inr (.inr (va_up (va_up (fun _ => none) (0 : Int32).toNatClampNeg (some p0z)) (1 : Int32).toNatClampNeg (some p1z)))))))] ++ mkX4 D p0z b0z ++ mkX4 D p1z b1z)) rfl ?_
  refine k_getR (ci := 8) (j := 0) (q := qa) fl_8_11 rfl dX8_init_35 ?_
  refine k_iload_n (x := 2) dX8_init_38 rfl ?_
  refine k_new (ci := 4) (N := 12) (fs := [.int 0, .int 0, .int 0, .int 0, .int 0, .int 0, .int 0, .int 0, .int 0, .int 0, .int 0, .null]) ob_4 rfl (gw_t 338 (by decide +kernel) (by decide +kernel)) (gw_t 340 (by decide +kernel) (by decide +kernel)) (gw_t 12 (by decide +kernel) (by decide +kernel)) (by decide) (by decide) (by decide) dX8_init_39 (fun p2z => ?_)
  refine k_dup dX8_init_42 rfl ?_
  refine k_callIN (own := RX8) (cc := cX8_init) (nL := 2) (R := krm 3 11 95) (mc := 11) (ms := 95) (kc := 6) (ks := 53) (pc := 43) (lv := [(1, .int 2), (0, .ref h0)]) (ws := (h0, .inr (8, [.ref qa, .int 0, .int 0, .long 0, .int (-1), .int (-1), .int (-1), .int 0])) :: (([] : va_W) ++ [(qa, .inl (D.2.1 5, 5, .inr (.inr (.inr (.inr (va_up (va_up (fun _ => none) (0 : Int32).toNatClampNeg (some p0z)) (1 : Int32).toNatClampNeg (some p1z)))))))] ++ mkX4 D p0z b0z ++ mkX4 D p1z b1z)) (q := p2z) (As := []) (rest := [.ref p2z, .int 2, .ref qa]) co_X4_init rfl (gw_t 342 (by decide +kernel) (by decide +kernel)) (gw_t 12 (by decide +kernel) (by decide +kernel)) (by decide +kernel) ⟨by decide +kernel, by decide +kernel, by decide +kernel⟩ (fun sz => k_X4_init p2z sz) ⟨by decide, by decide⟩ rfl rfl (Nat.le_of_ble_eq_true rfl) ⟨by decide, by decide⟩ dX8_init_43 (fun b2z => ?_)
  refine k_ws (ws' := (h0, .inr (8, [.ref qa, .int 0, .int 0, .long 0, .int (-1), .int (-1), .int (-1), .int 0])) :: (([] : va_W) ++ [(qa, .inl (D.2.1 5, 5, .inr (.inr (.inr (.inr (va_up (va_up (fun _ => none) (0 : Int32).toNatClampNeg (some p0z)) (1 : Int32).toNatClampNeg (some p1z)))))))] ++ mkX4 D p0z b0z ++ mkX4 D p1z b1z ++ mkX4 D p2z b2z)) rfl ?_
  refine k_aast (N := 5) (i := 2) 1 6 rfl rfl (vp_in_nI (n := 2) (N := 5) (by omega) (by decide)) dX8_init_46 ?_
  refine k_iinc dX8_init_47 rfl (by decide) ?_
  refine k_goto (tgt := 29) dX8_init_50 rfl (k_lv (lv' := [(1, .int 3), (0, .ref h0)]) rfl ?_)
  refine k_iload_n (x := 3) dX8_init_29 rfl ?_
  refine k_iconst 5 dX8_init_30 rfl ?_
  refine k_icmp_ge (tgt := 53) dX8_init_31 rfl (fun h => absurd h (by decide)) (fun _ => ?_)
  refine k_aload_n (x := h0) dX8_init_34 rfl ?_
  refine k_ws (ws' := (h0, .inr (8, [.ref qa, .int 0, .int 0, .long 0, .int (-1), .int (-1), .int (-1), .int 0])) :: (([] : va_W) ++ [(qa, .inl (D.2.1 5, 5, .inr (.inr (.inr (.inr (va_up (va_up (va_up (fun _ => none) (0 : Int32).toNatClampNeg (some p0z)) (1 : Int32).toNatClampNeg (some p1z)) (2 : Int32).toNatClampNeg (some p2z)))))))] ++ mkX4 D p0z b0z ++ mkX4 D p1z b1z ++ mkX4 D p2z b2z)) rfl ?_
  refine k_getR (ci := 8) (j := 0) (q := qa) fl_8_11 rfl dX8_init_35 ?_
  refine k_iload_n (x := 3) dX8_init_38 rfl ?_
  refine k_new (ci := 4) (N := 12) (fs := [.int 0, .int 0, .int 0, .int 0, .int 0, .int 0, .int 0, .int 0, .int 0, .int 0, .int 0, .null]) ob_4 rfl (gw_t 338 (by decide +kernel) (by decide +kernel)) (gw_t 340 (by decide +kernel) (by decide +kernel)) (gw_t 12 (by decide +kernel) (by decide +kernel)) (by decide) (by decide) (by decide) dX8_init_39 (fun p3z => ?_)
  refine k_dup dX8_init_42 rfl ?_
  refine k_callIN (own := RX8) (cc := cX8_init) (nL := 2) (R := krm 3 11 95) (mc := 11) (ms := 95) (kc := 8) (ks := 71) (pc := 43) (lv := [(1, .int 3), (0, .ref h0)]) (ws := (h0, .inr (8, [.ref qa, .int 0, .int 0, .long 0, .int (-1), .int (-1), .int (-1), .int 0])) :: (([] : va_W) ++ [(qa, .inl (D.2.1 5, 5, .inr (.inr (.inr (.inr (va_up (va_up (va_up (fun _ => none) (0 : Int32).toNatClampNeg (some p0z)) (1 : Int32).toNatClampNeg (some p1z)) (2 : Int32).toNatClampNeg (some p2z)))))))] ++ mkX4 D p0z b0z ++ mkX4 D p1z b1z ++ mkX4 D p2z b2z)) (q := p3z) (As := []) (rest := [.ref p3z, .int 3, .ref qa]) co_X4_init rfl (gw_t 342 (by decide +kernel) (by decide +kernel)) (gw_t 12 (by decide +kernel) (by decide +kernel)) (by decide +kernel) ⟨by decide +kernel, by decide +kernel, by decide +kernel⟩ (fun sz => k_X4_init p3z sz) ⟨by decide, by decide⟩ rfl rfl (Nat.le_of_ble_eq_true rfl) ⟨by decide, by decide⟩ dX8_init_43 (fun b3z => ?_)
  refine k_ws (ws' := (h0, .inr (8, [.ref qa, .int 0, .int 0, .long 0, .int (-1), .int (-1), .int (-1), .int 0])) :: (([] : va_W) ++ [(qa, .inl (D.2.1 5, 5, .inr (.inr (.inr (.inr (va_up (va_up (va_up (fun _ => none) (0 : Int32).toNatClampNeg (some p0z)) (1 : Int32).toNatClampNeg (some p1z)) (2 : Int32).toNatClampNeg (some p2z)))))))] ++ mkX4 D p0z b0z ++ mkX4 D p1z b1z ++ mkX4 D p2z b2z ++ mkX4 D p3z b3z)) rfl ?_
  refine k_aast (N := 5) (i := 3) 1 8 rfl rfl (vp_in_nI (n := 3) (N := 5) (by omega) (by decide)) dX8_init_46 ?_
  refine k_iinc dX8_init_47 rfl (by decide) ?_
  refine k_goto (tgt := 29) dX8_init_50 rfl (k_lv (lv' := [(1, .int 4), (0, .ref h0)]) rfl ?_)
  refine k_iload_n (x := 4) dX8_init_29 rfl ?_
  refine k_iconst 5 dX8_init_30 rfl ?_
  refine k_icmp_ge (tgt := 53) dX8_init_31 rfl (fun h => absurd h (by decide)) (fun _ => ?_)
  refine k_aload_n (x := h0) dX8_init_34 rfl ?_
  refine k_ws (ws' := (h0, .inr (8, [.ref qa, .int 0, .int 0, .long 0, .int (-1), .int (-1), .int (-1), .int 0])) :: (([] : va_W) ++ [(qa, .inl (D.2.1 5, 5, .inr (.inr (.inr (.inr (va_up (va_up (va_up (va_up (fun _ => none) (0 : Int32).toNatClampNeg (some p0z)) (1 : Int32).toNatClampNeg (some p1z)) (2 : Int32).toNatClampNeg (some p2z)) (3 : Int32).toNatClampNeg (some p3z)))))))] ++ mkX4 D p0z b0z ++ mkX4 D p1z b1z ++ mkX4 D p2z b2z ++ mkX4 D p3z b3z)) rfl ?_
  refine k_getR (ci := 8) (j := 0) (q := qa) fl_8_11 rfl dX8_init_35 ?_
  refine k_iload_n (x := 4) dX8_init_38 rfl ?_
  refine k_new (ci := 4) (N := 12) (fs := [.int 0, .int 0, .int 0, .int 0, .int 0, .int 0, .int 0, .int 0, .int 0, .int 0, .int 0, .null]) ob_4 rfl (gw_t 338 (by decide +kernel) (by decide +kernel)) (gw_t 340 (by decide +kernel) (by decide +kernel)) (gw_t 12 (by decide +kernel) (by decide +kernel)) (by decide) (by decide) (by decide) dX8_init_39 (fun p4z => ?_)
  refine k_dup dX8_init_42 rfl ?_
  refine k_callIN (own := RX8) (cc := cX8_init) (nL := 2) (R := krm 3 11 95) (mc := 11) (ms := 95) (kc := 10) (ks := 89) (pc := 43) (lv := [(1, .int 4), (0, .ref h0)]) (ws := (h0, .inr (8, [.ref qa, .int 0, .int 0, .long 0, .int (-1), .int (-1), .int (-1), .int 0])) :: (([] : va_W) ++ [(qa, .inl (D.2.1 5, 5, .inr (.inr (.inr (.inr (va_up (va_up (va_up (va_up (fun _ => none) (0 : Int32).toNatClampNeg (some p0z)) (1 : Int32).toNatClampNeg (some p1z)) (2 : Int32).toNatClampNeg (some p2z)) (3 : Int32).toNatClampNeg (some p3z)))))))] ++ mkX4 D p0z b0z ++ mkX4 D p1z b1z ++ mkX4 D p2z b2z ++ mkX4 D p3z b3z)) (q := p4z) (As := []) (rest := [.ref p4z, .int 4, .ref qa]) co_X4_init rfl (gw_t 342 (by decide +kernel) (by decide +kernel)) (gw_t 12 (by decide +kernel) (by decide +kernel)) (by decide +kernel) ⟨by decide +kernel, by decide +kernel, by decide +kernel⟩ (fun sz => k_X4_init p4z sz) ⟨by decide, by decide⟩ rfl rfl (Nat.le_of_ble_eq_true rfl) ⟨by decide, by decide⟩ dX8_init_43 (fun b4z => ?_)
  refine k_ws (ws' := (h0, .inr (8, [.ref qa, .int 0, .int 0, .long 0, .int (-1), .int (-1), .int (-1), .int 0])) :: (([] : va_W) ++ [(qa, .inl (D.2.1 5, 5, .inr (.inr (.inr (.inr (va_up (va_up (va_up (va_up (fun _ => none) (0 : Int32).toNatClampNeg (some p0z)) (1 : Int32).toNatClampNeg (some p1z)) (2 : Int32).toNatClampNeg (some p2z)) (3 : Int32).toNatClampNeg (some p3z)))))))] ++ mkX4 D p0z b0z ++ mkX4 D p1z b1z ++ mkX4 D p2z b2z ++ mkX4 D p3z b3z ++ mkX4 D p4z b4z)) rfl ?_
  refine k_aast (N := 5) (i := 4) 1 10 rfl rfl (vp_in_nI (n := 4) (N := 5) (by omega) (by decide)) dX8_init_46 ?_
  refine k_iinc dX8_init_47 rfl (by decide) ?_
  refine k_goto (tgt := 29) dX8_init_50 rfl (k_lv (lv' := [(1, .int 5), (0, .ref h0)]) rfl ?_)
  refine k_iload_n (x := 5) dX8_init_29 rfl ?_
  refine k_iconst 5 dX8_init_30 rfl ?_
  refine k_icmp_ge (tgt := 53) dX8_init_31 rfl (fun _ => ?_) (fun h => absurd (by decide) h)
  exact k_vret (fun k => match k with | 0 => qa | 1 => p0z | 2 => b0z 0 | 3 => p1z | 4 => b1z 0 | 5 => p2z | 6 => b2z 0 | 7 => p3z | 8 => b3z 0 | 9 => p4z | 10 => b4z 0 | _ => 0) rfl rfl rfl dX8_init_53
