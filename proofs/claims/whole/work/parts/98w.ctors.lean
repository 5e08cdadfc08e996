/-! CONSTRUCTORS in a straight line -/
def mkX4 (D : gD) (h0 : Nat) (ad : Nat → Nat) : va_W := (h0, .inr (4, [.int 0, .int 0, .int 0, .int 0, .int 0, .int 0, .int 0, .int 0, .int 0, .int 0, .int 0, .ref (ad 0)])) :: (([] : va_W) ++ [((ad 0), .inl (D.2.1 1, (6, .inl (fun _ => 0))))])
theorem k_X4_init {l : Launch} {D : gD} (h0 : Nat) (sz : Nat) : KCt l D 2 1 6 yX4_init cX4_init 1 [.ref h0] [(h0, .inr (4, [.int 0, .int 0, .int 0, .int 0, .int 0, .int 0, .int 0, .int 0, .int 0, .int 0, .int 0, .null]))] (mkX4 D h0) sz := by
  refine KCt_of rfl (by decide) rfl (Nat.le_of_ble_eq_true rfl) (fun Γ => ?_)
  refine k_aload_n (x := h0) dX4_init_0 rfl ?_
  refine k_objInit (gw_t 344 (by decide +kernel) (by decide +kernel)) (by decide) (by decide) dX4_init_1 ?_
  refine k_aload_n (x := h0) dX4_init_4 rfl ?_
  refine k_bipush (6) dX4_init_5 rfl ?_
  refine k_newI (N := 6) (by decide) (by decide) (by decide) (by decide) (by decide) dX4_init_7 (fun q0z => ?_)
  refine k_putF (ci := 4) (j := 11) (h0 := h0) (fs := [.int 0, .int 0, .int 0, .int 0, .int 0, .int 0, .int 0, .int 0, .int 0, .int 0, .int 0, .null]) (rest := (([] : va_W) ++ [(q0z, .inl (D.2.1 1, (6, .inl (fun _ => 0))))])) (v := .ref q0z) (ty := (.array .int)) fl_4_9 rfl rfl (by decide +kernel) rfl rfl (by decide) dX4_init_9 ?_
  exact k_vret (fun k => match k with | 0 => q0z | _ => 0) rfl rfl rfl dX4_init_12
