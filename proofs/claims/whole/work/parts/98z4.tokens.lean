/-! Tokens' constructor: the loop over the text -/
def tkcW : Nat → Nat
  | 0 => 0
  | k + 1 => if sCh k = 32 then tkcW k + 1 else tkcW k
def tkcN : Nat → Nat
  | 0 => 0
  | k + 1 => if sCh k = 32 then 0 else tkcN k + 1
def tkcF : Nat → Nat → Int32
  | 0, _ => 0
  | k + 1, z => if sCh k = 32 then tkcF k z else if z = tkcW k then tkcF k z ||| lbF (sCh k) (nI (tkcN k)) else tkcF k z
theorem tkcW_s (k : Nat) : tkcW (k + 1) = if sCh k = 32 then tkcW k + 1 else tkcW k := rfl
theorem tkcN_s (k : Nat) : tkcN (k + 1) = if sCh k = 32 then 0 else tkcN k + 1 := rfl
theorem tkcF_s (k z : Nat) : tkcF (k + 1) z = if sCh k = 32 then tkcF k z else if z = tkcW k then tkcF k z ||| lbF (sCh k) (nI (tkcN k)) else tkcF k z := rfl
theorem tkcW_lt : ∀ k, k < 100 → tkcW k < 21 := by decide +kernel
theorem tkcF_eq {k : Nat} (h : sCh k = 32) : tkcF k = tkcF (k + 1) := by
  funext z
  rw [tkcF_s, if_pos h]
theorem tkcF_ne {k : Nat} (h : ¬ sCh k = 32) : upd (tkcF k) (tkcW k) (tkcF k (tkcW k) ||| lbF (sCh k) (nI (tkcN k))) = tkcF (k + 1) := by
  funext z
  rw [tkcF_s, if_neg h]
  show (if z = tkcW k then tkcF k (tkcW k) ||| lbF (sCh k) (nI (tkcN k)) else tkcF k z) = _
  by_cases hz : z = tkcW k
  · rw [if_pos hz, if_pos hz, hz]
  · rw [if_neg hz, if_neg hz]
theorem tkcF_hi : ∀ k, k ≤ 100 → ∀ z, 21 ≤ z → tkcF k z = 0 := by
  intro k
  induction k with
  | zero => exact fun _ _ _ => rfl
  | succ k ih =>
    intro hk z hz
    have hw := tkcW_lt k (by omega)
    rw [tkcF_s, ih (by omega) z hz, if_neg (show ¬ z = tkcW k by omega)]
    by_cases h : sCh k = 32
    · rw [if_pos h]
    · rw [if_neg h]
theorem tkcF_lo : ∀ z, z < 21 → tkcF 100 z = lgW z := by decide +kernel
theorem tkcF_lg : tkcF 100 = lgW := by
  funext z
  by_cases hz : z < 21
  · exact tkcF_lo z hz
  · rw [tkcF_hi 100 (by omega) z (by omega)]
    show (0 : Int32) = nI (lgL.getD z 0)
    rw [List.getD_eq_getElem?_getD, List.getElem?_eq_none (show lgL.length ≤ z by show 21 ≤ z; omega)]
    rfl
theorem tkv_ne {h0 k : Nat} (h : ¬ sCh k = 32) : ([(3, .int (nI k + Int32.ofInt 1)), (2, .int (nI (tkcN k) + Int32.ofInt 1)), (1, .int (nI (tkcW k))), (0, .ref h0)] : List (Nat × Value)) = [(3, .int (nI (k + 1))), (2, .int (nI (tkcN (k + 1)))), (1, .int (nI (tkcW (k + 1)))), (0, .ref h0)] := by
  rw [tkcW_s, tkcN_s, if_neg h, if_neg h, ← nI_add, ← nI_add]
  rfl
theorem tkv_eq {h0 k : Nat} (h : sCh k = 32) : ([(3, .int (nI k + Int32.ofInt 1)), (2, .int 0), (1, .int (nI (tkcW k) + Int32.ofInt 1)), (0, .ref h0)] : List (Nat × Value)) = [(3, .int (nI (k + 1))), (2, .int (nI (tkcN (k + 1)))), (1, .int (nI (tkcW (k + 1)))), (0, .ref h0)] := by
  rw [tkcW_s, tkcN_s, if_pos h, if_pos h, ← nI_add, ← nI_add]
  rfl
theorem tkc_loop {l : Launch} {D : gD} {A : Nat → Prop} {Γ : gC} (h0 q0 q1 : Nat) : ∀ n k, k + n = 100 → KG l D A RX6 cX6_init 4 (krm 6 2 721) 2 721 (mkX6 D h0) Γ 2 721 27 [(3, .int (nI k)), (2, .int (nI (tkcN k))), (1, .int (nI (tkcW k))), (0, .ref h0)] [] ((h0, .inr (6, [.ref q0, .ref q1, .int 0, .int 0, .int 0, .int 0, .int 0, .int 0])) :: (([] : va_W) ++ [(q0, .inl (D.2.1 2, (700, .inl (fun _ => 0))))] ++ [(q1, .inl (D.2.1 1, (21, .inl (tkcF k))))])) := by
  intro n
  induction n with
  | zero =>
    intro k hk
    have hk : k = 100 := by omega
    subst hk
    refine k_iload_n (x := nI 100) dX6_init_27 rfl ?_
    refine k_ldcT dX6_init_28 ?_
    refine k_strV (As := []) (rest := [.int (nI 100)]) ca_X6_21 (cS_len (d := 1) (by omega)) ⟨by decide, by decide⟩ (by decide) (by decide) rfl rfl (Nat.le_of_ble_eq_true rfl) dX6_init_30 (fun r hr => ?_)
    subst hr
    refine k_icmp_ge (tgt := 89) dX6_init_33 rfl (fun _ => ?_) (fun h => absurd (nI_le (Nat.le_refl 100) (by decide)) h)
    refine k_ws (ws' := (h0, .inr (6, [.ref q0, .ref q1, .int 0, .int 0, .int 0, .int 0, .int 0, .int 0])) :: (([] : va_W) ++ [(q0, .inl (D.2.1 2, (700, .inl (fun _ => 0))))] ++ [(q1, .inl (D.2.1 1, (21, .inl lgW)))])) (by rw [tkcF_lg]) ?_
    exact k_vret (fun k => match k with | 0 => q0 | 1 => q1 | _ => 0) rfl rfl rfl dX6_init_89
  | succ n ih =>
    intro k hk
    have hk1 : k < 100 := by omega
    have hw := tkcW_lt k hk1
    refine k_iload_n (x := nI k) dX6_init_27 rfl ?_
    refine k_ldcT dX6_init_28 ?_
    refine k_strV (As := []) (rest := [.int (nI k)]) ca_X6_21 (cS_len (d := 1) (by omega)) ⟨by decide, by decide⟩ (by decide) (by decide) rfl rfl (Nat.le_of_ble_eq_true rfl) dX6_init_30 (fun r hr => ?_)
    subst hr
    refine k_icmp_ge (tgt := 89) dX6_init_33 rfl (fun h => absurd h (nI_ge hk1 (by decide))) (fun _ => ?_)
    refine k_iload_n (x := nI (tkcW k)) dX6_init_36 rfl ?_
    refine k_bipush (nI 21) dX6_init_37 rfl ?_
    refine k_icmp_ge (tgt := 89) dX6_init_39 rfl (fun h => absurd h (nI_ge hw (by decide))) (fun _ => ?_)
    refine k_ldcT dX6_init_42 ?_
    refine k_iload_n (x := nI k) dX6_init_44 rfl ?_
    refine k_strV (As := [.int (nI k)]) (rest := []) ca_X6_27 (cS_chr (d := 3) (by omega) hk1) ⟨by decide, by decide⟩ (by decide) (by decide) rfl rfl (Nat.le_of_ble_eq_true rfl) dX6_init_45 (fun r hr => ?_)
    subst hr
    refine k_bipush 32 dX6_init_48 rfl ?_
    refine k_icmp_ne (tgt := 61) dX6_init_50 rfl (fun hne => ?_) (fun heq => ?_)
    · refine k_aload_n (x := h0) dX6_init_61 rfl ?_
      refine k_getR (ci := 6) (j := 1) (q := q1) fl_6_15 rfl dX6_init_62 ?_
      refine k_iload_n (x := nI (tkcW k)) dX6_init_65 rfl ?_
      refine k_dup2 dX6_init_66 rfl rfl ?_
      refine k_iald (N := 21) (f := tkcF k) 2 (tkcW k) rfl rfl hw (by decide) dX6_init_67 ?_
      refine k_ldcT dX6_init_68 ?_
      refine k_iload_n (x := nI k) dX6_init_70 rfl ?_
      refine k_strV (As := [.int (nI k)]) (rest := [.int (tkcF k (tkcW k)), .int (nI (tkcW k)), .ref q1]) ca_X6_27 (cS_chr (d := 3) (by omega) hk1) ⟨by decide, by decide⟩ (by decide) (by decide) rfl rfl (Nat.le_of_ble_eq_true rfl) dX6_init_71 (fun r hr => ?_)
      subst hr
      refine k_iload_n (x := nI (tkcN k)) dX6_init_74 rfl ?_
      refine k_strS (As := [.int (sCh k), .int (nI (tkcN k))]) (rest := [.int (tkcF k (tkcW k)), .int (nI (tkcW k)), .ref q1]) ca_X6_31 (cS_let (d := 0)) ⟨by decide, by decide⟩ (by decide) (by decide) rfl rfl (Nat.le_of_ble_eq_true rfl) dX6_init_75 (fun r hr => ?_)
      subst hr
      refine k_ior dX6_init_78 ?_
      refine k_iast (N := 21) (f := tkcF k) 2 (tkcW k) rfl rfl hw (by decide) dX6_init_79 ?_
      refine k_iinc dX6_init_80 rfl (by decide) ?_
      refine k_iinc dX6_init_83 rfl (by decide) ?_
      refine k_goto (tgt := 27) dX6_init_86 rfl ?_
      refine k_lv (tkv_ne (h0 := h0) hne) ?_
      refine k_ws ?_ (ih (k + 1) (by omega))
      rw [← tkcF_ne hne]
      rfl
    · refine k_iinc dX6_init_53 rfl (by decide) ?_
      refine k_iconst 0 dX6_init_56 rfl ?_
      refine k_istore_n dX6_init_57 (by decide) ?_
      refine k_goto (tgt := 83) dX6_init_58 rfl ?_
      refine k_iinc dX6_init_83 rfl (by decide) ?_
      refine k_goto (tgt := 27) dX6_init_86 rfl ?_
      refine k_lv (tkv_eq (h0 := h0) heq) ?_
      refine k_ws ?_ (ih (k + 1) (by omega))
      rw [← tkcF_eq heq]
theorem k_X6_init {l : Launch} {D : gD} (h0 : Nat) (sz : Nat) : KCt l D 6 2 721 yX6_init cX6_init 4 [.ref h0] [(h0, .inr (6, [.null, .null, .int 0, .int 0, .int 0, .int 0, .int 0, .int 0]))] (mkX6 D h0) sz := by
  refine KCt_of (own := RX6) rfl (by decide) rfl (Nat.le_of_ble_eq_true rfl) (fun Γ => ?_)
  refine k_aload_n (x := h0) dX6_init_0 rfl ?_
  refine k_objInit (gw_t 37 (by decide +kernel) (by decide +kernel)) (by decide) (by decide) dX6_init_1 ?_
  refine k_aload_n (x := h0) dX6_init_4 rfl ?_
  refine k_sipush 700 dX6_init_5 rfl ?_
  refine k_newB (N := 700) (by decide) (by decide) (by decide) (by decide) (by decide) dX6_init_8 (fun q0 => ?_)
  refine k_putF (ci := 6) (j := 0) (h0 := h0) (fs := [.null, .null, .int 0, .int 0, .int 0, .int 0, .int 0, .int 0]) (rest := (([] : va_W) ++ [(q0, .inl (D.2.1 2, (700, .inl (fun _ => 0))))])) (v := .ref q0) (ty := (.array .byte)) fl_6_9 rfl rfl (by decide +kernel) rfl rfl (Nat.le_of_ble_eq_true rfl) dX6_init_10 ?_
  refine k_aload_n (x := h0) dX6_init_13 rfl ?_
  refine k_bipush 21 dX6_init_14 rfl ?_
  refine k_newI (N := 21) (by decide) (by decide) (by decide) (by decide) (by decide) dX6_init_16 (fun q1 => ?_)
  refine k_putF (ci := 6) (j := 1) (h0 := h0) (fs := [.ref q0, .null, .int 0, .int 0, .int 0, .int 0, .int 0, .int 0]) (rest := (([] : va_W) ++ [(q0, .inl (D.2.1 2, (700, .inl (fun _ => 0))))] ++ [(q1, .inl (D.2.1 1, (21, .inl (fun _ => 0))))])) (v := .ref q1) (ty := (.array .int)) fl_6_15 rfl rfl (by decide +kernel) rfl rfl (Nat.le_of_ble_eq_true rfl) dX6_init_18 ?_
  refine k_iconst 0 dX6_init_21 rfl ?_
  refine k_istore_n dX6_init_22 (by decide) ?_
  refine k_iconst 0 dX6_init_23 rfl ?_
  refine k_istore_n dX6_init_24 (by decide) ?_
  refine k_iconst 0 dX6_init_25 rfl ?_
  refine k_istore_n dX6_init_26 (by decide) ?_
  exact tkc_loop h0 q0 q1 100 0 rfl
