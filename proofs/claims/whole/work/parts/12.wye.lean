def pt_X10_deeds_0 (l : Launch) (D : gD) (d : Nat) (q : Int32 → gMem → Prop) (Γ : gC) (r0 : Nat) (x1 : Int32) (x2 : Int32) (μ : gMem) : Prop := G l D RX10 cX10_deeds 11 (some .int) d (pI q) Γ 0 [(0, .ref (D.2.2 10 r0)), (1, .int x1), (2, .int x2)] [] μ
def pt_X10_deeds_1 (l : Launch) (D : gD) (d : Nat) (q : Int32 → gMem → Prop) (Γ : gC) (r0 : Nat) (x1 : Int32) (x2 : Int32) (x3 : Int32) (μ : gMem) : Prop := G l D RX10 cX10_deeds 11 (some .int) d (pI q) Γ 48 [(0, .ref (D.2.2 10 r0)), (1, .int x1), (2, .int x2), (3, .int x3)] [] μ
def pt_X10_deeds_2 (l : Launch) (D : gD) (d : Nat) (q : Int32 → gMem → Prop) (Γ : gC) (r0 : Nat) (x1 : Int32) (x2 : Int32) (x3 : Int32) (x4 : Int32) (x5 : Int32) (x6 : Int32) (μ : gMem) : Prop := G l D RX10 cX10_deeds 11 (some .int) d (pI q) Γ 57 [(0, .ref (D.2.2 10 r0)), (1, .int x1), (2, .int x2), (3, .int x3), (4, .int x4), (5, .int x5), (6, .int x6)] [] μ
def pt_X10_deeds_3 (l : Launch) (D : gD) (d : Nat) (q : Int32 → gMem → Prop) (Γ : gC) (r0 : Nat) (x1 : Int32) (x2 : Int32) (x3 : Int32) (x4 : Int32) (x5 : Int32) (x6 : Int32) (x7 : Int32) (x8 : Int32) (x9 : Int32) (μ : gMem) : Prop := G l D RX10 cX10_deeds 11 (some .int) d (pI q) Γ 91 [(0, .ref (D.2.2 10 r0)), (1, .int x1), (2, .int x2), (3, .int x3), (4, .int x4), (5, .int x5), (6, .int x6), (7, .int x7), (8, .int x8), (9, .int x9)] [] μ
def pt_X10_deeds_4 (l : Launch) (D : gD) (d : Nat) (q : Int32 → gMem → Prop) (Γ : gC) (r0 : Nat) (x1 : Int32) (x2 : Int32) (x3 : Int32) (x6 : Int32) (x8 : Int32) (μ : gMem) : Prop := G l D RX10 cX10_deeds 11 (some .int) d (pI q) Γ 176 [(0, .ref (D.2.2 10 r0)), (1, .int x1), (2, .int x2), (3, .int x3), (6, .int x6), (8, .int x8)] [] μ
def pt_X10_deeds_5 (l : Launch) (D : gD) (d : Nat) (q : Int32 → gMem → Prop) (Γ : gC) (r0 : Nat) (x1 : Int32) (x2 : Int32) (x3 : Int32) (x4 : Int32) (x5 : Int32) (x6 : Int32) (μ : gMem) : Prop := G l D RX10 cX10_deeds 11 (some .int) d (pI q) Γ 184 [(0, .ref (D.2.2 10 r0)), (1, .int x1), (2, .int x2), (3, .int x3), (4, .int x4), (5, .int x5), (6, .int x6)] [] μ
set_option maxRecDepth 20000 in
set_option maxHeartbeats 4000000 in
theorem bl_X10_deeds_0 {l : Launch} {D : gD} {d : Nat} {q : Int32 → gMem → Prop} {Γ : gC} {r0 : Nat} {x1 : Int32} {x2 : Int32} {μ : gMem} (hr0 : r0 < 1) (h : ∀ μ_1 : gMem, μ_1 = gsI μ 10 r0 0 (0 : Int32) → ∃ (d_2 : Nat) (q_3 : Int32 → gMem → Prop), d_2 < d ∧ Ctr l D d_2 yX10_isMan cX10_isMan 2 (some .boolean) [.ref (D.2.2 10 r0), .int x1] μ_1 (pI q_3) ∧ ∀ (v_7 : Int32) (μ_6 : gMem), q_3 v_7 μ_6 → ((v_7 = 0) → q (-1 : Int32) μ_6) ∧ ((¬ v_7 = 0) → ((x2 < 0) → q (-1 : Int32) μ_6) ∧ ((¬ x2 < 0) → ((x2 ≤ (4 : Int32)) → ∃ j_12 : Nat, j_12 < 20 ∧ (1 : Int32) = nI j_12 ∧ ((0 < d) ∧ (∀ x3_14 : Int32, x3_14 = imin (4 : Int32) (μ_6.1 707 r0 j_12) → (((4 : Int32) ≤ x2) → pt_X10_deeds_1 l D d q Γ r0 x1 x2 x3_14 μ_6) ∧ ((¬ (4 : Int32) ≤ x2) → ((x2 < x3_14) → pt_X10_deeds_1 l D d q Γ r0 x1 x2 x3_14 μ_6) ∧ ((¬ x2 < x3_14) → q (-2 : Int32) μ_6))))) ∧ ((¬ x2 ≤ (4 : Int32)) → q (-1 : Int32) μ_6)))) : pt_X10_deeds_0 l D d q Γ r0 x1 x2 μ := by
  unfold pt_X10_deeds_0
  refine g_aload_n dX10_deeds_0 rfl ?_
  refine g_iconst (0 : Int32) dX10_deeds_1 rfl ?_
  refine g_pfI fi_10_145 hr0 rfl rfl dX10_deeds_2 ?_
  obtain ⟨μ_1, eμ_1⟩ : ∃ z : gMem, z = gsI μ 10 r0 0 (0 : Int32) := ⟨_, rfl⟩
  have h := h μ_1 eμ_1
  refine g_mem eμ_1.symm ?_
  refine g_aload_n dX10_deeds_5 rfl ?_
  refine g_iload_n dX10_deeds_6 rfl ?_
  obtain ⟨d_2, q_3, hd_4, hc_5, h⟩ := h
  refine g_cV ca_X10_394 ob_10 hc_5 hd_4 (by decide) hr0 rfl rfl (by first | exact Nat.le_of_ble_eq_true rfl | decide) dX10_deeds_7 (kI (fun v_7 μ_6 hq_8 => ?_))
  have h := h v_7 μ_6 hq_8
  refine g_if_eq (tgt := 22) dX10_deeds_10 (by decide) (fun c_9 => ?_) (fun c_9 => ?_)
  · have h := h.1 c_9
    refine g_iconst (-1 : Int32) dX10_deeds_22 rfl ?_
    exact g_iret dX10_deeds_23 rfl rfl ⟨_, rfl, h⟩
  · have h := h.2 c_9
    refine g_iload_n dX10_deeds_13 rfl ?_
    refine g_if_lt (tgt := 22) dX10_deeds_14 (by decide) (fun c_10 => ?_) (fun c_10 => ?_)
    · have h := h.1 c_10
      refine g_iconst (-1 : Int32) dX10_deeds_22 rfl ?_
      exact g_iret dX10_deeds_23 rfl rfl ⟨_, rfl, h⟩
    · have h := h.2 c_10
      refine g_iload_n dX10_deeds_17 rfl ?_
      refine g_iconst (4 : Int32) dX10_deeds_18 rfl ?_
      refine g_icmp_le (tgt := 24) dX10_deeds_19 (by decide) (fun c_11 => ?_) (fun c_11 => ?_)
      · have h := h.1 c_11
        refine g_iconst (4 : Int32) dX10_deeds_24 rfl ?_
        refine g_aload_n dX10_deeds_25 rfl ?_
        refine g_gfR fl_10_13 rfl hr0 dX10_deeds_26 ?_
        refine g_iconst (1 : Int32) dX10_deeds_29 rfl ?_
        obtain ⟨j_12, hj_12, ej_12, h⟩ := h
        refine g_iald j_12 hr0 rfl hj_12 (by decide) ej_12 dX10_deeds_30 ?_
        obtain ⟨hd_13, h⟩ := h
        refine g_mmin hd_13 mk_X10_371 (by first | exact Nat.le_of_ble_eq_true rfl | decide) dX10_deeds_31 ?_
        refine g_istore_n dX10_deeds_34 (by decide) (fun x3_14 ex3_14 => g_sub (lv' := [(0, .ref (D.2.2 10 r0)), (1, .int x1), (2, .int x2), (3, .int x3_14)]) [1, 2, 3, 0] rfl ?_)
        have h := h x3_14 ex3_14
        refine g_iload_n dX10_deeds_35 rfl ?_
        refine g_iconst (4 : Int32) dX10_deeds_36 rfl ?_
        refine g_icmp_ge (tgt := 48) dX10_deeds_37 (by decide) (fun c_15 => ?_) (fun c_15 => ?_)
        · have h := h.1 c_15
          exact g_sub [0, 1, 2, 3] rfl h
        · have h := h.2 c_15
          refine g_iload_n dX10_deeds_40 rfl ?_
          refine g_iload_n dX10_deeds_41 rfl ?_
          refine g_icmp_lt (tgt := 48) dX10_deeds_42 (by decide) (fun c_16 => ?_) (fun c_16 => ?_)
          · have h := h.1 c_16
            exact g_sub [0, 1, 2, 3] rfl h
          · have h := h.2 c_16
            refine g_bipush (-2 : Int32) dX10_deeds_45 rfl ?_
            exact g_iret dX10_deeds_47 rfl rfl ⟨_, rfl, h⟩
      · have h := h.2 c_11
        refine g_iconst (-1 : Int32) dX10_deeds_22 rfl ?_
        exact g_iret dX10_deeds_23 rfl rfl ⟨_, rfl, h⟩
set_option maxRecDepth 20000 in
set_option maxHeartbeats 4000000 in
theorem bl_X10_deeds_1 {l : Launch} {D : gD} {d : Nat} {q : Int32 → gMem → Prop} {Γ : gC} {r0 : Nat} {x1 : Int32} {x2 : Int32} {x3 : Int32} {μ : gMem} (hr0 : r0 < 1) (h : ∀ x4_1 : Int32, x4_1 = (-1 : Int32) → ∀ x5_2 : Int32, x5_2 = (0 : Int32) → ∀ x6_3 : Int32, x6_3 = (0 : Int32) → pt_X10_deeds_2 l D d q Γ r0 x1 x2 x3 x4_1 x5_2 x6_3 μ) : pt_X10_deeds_1 l D d q Γ r0 x1 x2 x3 μ := by
  unfold pt_X10_deeds_1
  refine g_iconst (-1 : Int32) dX10_deeds_48 rfl ?_
  refine g_istore dX10_deeds_49 (by decide) (fun x4_1 ex4_1 => g_sub (lv' := [(0, .ref (D.2.2 10 r0)), (1, .int x1), (2, .int x2), (3, .int x3), (4, .int x4_1)]) [1, 2, 3, 4, 0] rfl ?_)
  have h := h x4_1 ex4_1
  refine g_iconst (0 : Int32) dX10_deeds_51 rfl ?_
  refine g_istore dX10_deeds_52 (by decide) (fun x5_2 ex5_2 => g_sub (lv' := [(0, .ref (D.2.2 10 r0)), (1, .int x1), (2, .int x2), (3, .int x3), (4, .int x4_1), (5, .int x5_2)]) [1, 2, 3, 4, 5, 0] rfl ?_)
  have h := h x5_2 ex5_2
  refine g_iconst (0 : Int32) dX10_deeds_54 rfl ?_
  refine g_istore dX10_deeds_55 (by decide) (fun x6_3 ex6_3 => g_sub (lv' := [(0, .ref (D.2.2 10 r0)), (1, .int x1), (2, .int x2), (3, .int x3), (4, .int x4_1), (5, .int x5_2), (6, .int x6_3)]) [1, 2, 3, 4, 5, 6, 0] rfl ?_)
  have h := h x6_3 ex6_3
  exact g_sub [0, 1, 2, 3, 4, 5, 6] rfl h
set_option maxRecDepth 20000 in
set_option maxHeartbeats 4000000 in
theorem bl_X10_deeds_2 {l : Launch} {D : gD} {d : Nat} {q : Int32 → gMem → Prop} {Γ : gC} {r0 : Nat} {x1 : Int32} {x2 : Int32} {x3 : Int32} {x4 : Int32} {x5 : Int32} {x6 : Int32} {μ : gMem} (hr0 : r0 < 1) (h : ∃ (d_1 : Nat) (q_2 : Int32 → gMem → Prop), d_1 < d ∧ Ctr l D d_1 yX10_fives cX10_fives 3 (some .int) [.int x3] μ (pI q_2) ∧ ∀ (v_6 : Int32) (μ_5 : gMem), q_2 v_6 μ_5 → ((v_6 ≤ x6) → ((¬ x4 = (-1 : Int32)) → ((¬ x2 = (4 : Int32)) → ∃ (d_11 : Nat) (q_12 : Int32 → gMem → Prop), d_11 < d ∧ Ctr l D d_11 yX10_fives cX10_fives 3 (some .int) [.int ((x3 - (1 : Int32)) - x2)] μ_5 (pI q_12) ∧ ∀ (v_16 : Int32) (μ_15 : gMem), q_12 v_16 μ_15 → (¬ v_16 = 0) ∧ (q ((x4 / v_16) - (x4 / v_16) / (5 : Int32) * (5 : Int32)) μ_15)) ∧ ((x2 = (4 : Int32)) → q x5 μ_5)) ∧ ((x4 = (-1 : Int32)) → q (-3 : Int32) μ_5)) ∧ ((¬ v_6 ≤ x6) → ∃ j_19 : Nat, j_19 < 115 ∧ x1 = nI j_19 ∧ (∃ (d_20 : Nat) (q_21 : Int32 → gMem → Prop), d_20 < d ∧ Ctr l D d_20 yX10_deedSteps cX10_deedSteps 6 (some .int) [.ref (D.2.2 10 r0), .int (0 : Int32), .int x1, .ref (D.2.2 714 r0)] μ_5 (pI q_21) ∧ ∀ (v_25 : Int32) (μ_24 : gMem), q_21 v_25 μ_24 → ∀ x7_27 : Int32, x7_27 = (μ_5.1 741 r0 j_19) + v_25 → ∀ x8_28 : Int32, x8_28 = (0 : Int32) → ∀ x9_29 : Int32, x9_29 = (0 : Int32) → pt_X10_deeds_3 l D d q Γ r0 x1 x2 x3 x4 x5 x6 x7_27 x8_28 x9_29 μ_24))) : pt_X10_deeds_2 l D d q Γ r0 x1 x2 x3 x4 x5 x6 μ := by
  unfold pt_X10_deeds_2
  refine g_iload dX10_deeds_57 rfl ?_
  refine g_iload_n dX10_deeds_59 rfl ?_
  obtain ⟨d_1, q_2, hd_3, hc_4, h⟩ := h
  refine g_callS ca_X10_410 hc_4 hd_3 (by decide) rfl rfl (by first | exact Nat.le_of_ble_eq_true rfl | decide) dX10_deeds_60 (kI (fun v_6 μ_5 hq_7 => ?_))
  have h := h v_6 μ_5 hq_7
  refine g_icmp_ge (tgt := 190) dX10_deeds_63 (by decide) (fun c_8 => ?_) (fun c_8 => ?_)
  · have h := h.1 c_8
    refine g_iload dX10_deeds_190 rfl ?_
    refine g_iconst (-1 : Int32) dX10_deeds_192 rfl ?_
    refine g_icmp_ne (tgt := 199) dX10_deeds_193 (by decide) (fun c_9 => ?_) (fun c_9 => ?_)
    · have h := h.1 c_9
      refine g_iload_n dX10_deeds_199 rfl ?_
      refine g_iconst (4 : Int32) dX10_deeds_200 rfl ?_
      refine g_icmp_ne (tgt := 207) dX10_deeds_201 (by decide) (fun c_10 => ?_) (fun c_10 => ?_)
      · have h := h.1 c_10
        refine g_iload dX10_deeds_207 rfl ?_
        refine g_iload_n dX10_deeds_209 rfl ?_
        refine g_iconst (1 : Int32) dX10_deeds_210 rfl ?_
        refine g_isub dX10_deeds_211 ?_
        refine g_iload_n dX10_deeds_212 rfl ?_
        refine g_isub dX10_deeds_213 ?_
        obtain ⟨d_11, q_12, hd_13, hc_14, h⟩ := h
        refine g_callS ca_X10_410 hc_14 hd_13 (by decide) rfl rfl (by first | exact Nat.le_of_ble_eq_true rfl | decide) dX10_deeds_214 (kI (fun v_16 μ_15 hq_17 => ?_))
        have h := h v_16 μ_15 hq_17
        obtain ⟨nz_18, h⟩ := h
        refine g_idiv dX10_deeds_217 nz_18 ?_
        refine g_iconst (5 : Int32) dX10_deeds_218 rfl ?_
        refine g_irem dX10_deeds_219 (by decide) ?_
        exact g_iret dX10_deeds_220 rfl rfl ⟨_, rfl, h⟩
      · have h := h.2 c_10
        refine g_iload dX10_deeds_204 rfl ?_
        exact g_iret dX10_deeds_206 rfl rfl ⟨_, rfl, h⟩
    · have h := h.2 c_9
      refine g_bipush (-3 : Int32) dX10_deeds_196 rfl ?_
      exact g_iret dX10_deeds_198 rfl rfl ⟨_, rfl, h⟩
  · have h := h.2 c_8
    refine g_aload_n dX10_deeds_66 rfl ?_
    refine g_gfR fl_10_78 rfl hr0 dX10_deeds_67 ?_
    refine g_iload_n dX10_deeds_70 rfl ?_
    obtain ⟨j_19, hj_19, ej_19, h⟩ := h
    refine g_iald j_19 hr0 rfl hj_19 (by decide) ej_19 dX10_deeds_71 ?_
    refine g_aload_n dX10_deeds_72 rfl ?_
    refine g_iconst (0 : Int32) dX10_deeds_73 rfl ?_
    refine g_iload_n dX10_deeds_74 rfl ?_
    refine g_aload_n dX10_deeds_75 rfl ?_
    refine g_gfR fl_10_34 rfl hr0 dX10_deeds_76 ?_
    obtain ⟨d_20, q_21, hd_22, hc_23, h⟩ := h
    refine g_cV ca_X10_355 ob_10 hc_23 hd_22 (by decide) hr0 rfl rfl (by first | exact Nat.le_of_ble_eq_true rfl | decide) dX10_deeds_79 (kI (fun v_25 μ_24 hq_26 => ?_))
    have h := h v_25 μ_24 hq_26
    refine g_iadd dX10_deeds_82 ?_
    refine g_istore dX10_deeds_83 (by decide) (fun x7_27 ex7_27 => g_sub (lv' := [(0, .ref (D.2.2 10 r0)), (1, .int x1), (2, .int x2), (3, .int x3), (4, .int x4), (5, .int x5), (6, .int x6), (7, .int x7_27)]) [1, 2, 3, 4, 5, 6, 7, 0] rfl ?_)
    have h := h x7_27 ex7_27
    refine g_iconst (0 : Int32) dX10_deeds_85 rfl ?_
    refine g_istore dX10_deeds_86 (by decide) (fun x8_28 ex8_28 => g_sub (lv' := [(0, .ref (D.2.2 10 r0)), (1, .int x1), (2, .int x2), (3, .int x3), (4, .int x4), (5, .int x5), (6, .int x6), (7, .int x7_27), (8, .int x8_28)]) [1, 2, 3, 4, 5, 6, 7, 8, 0] rfl ?_)
    have h := h x8_28 ex8_28
    refine g_iconst (0 : Int32) dX10_deeds_88 rfl ?_
    refine g_istore dX10_deeds_89 (by decide) (fun x9_29 ex9_29 => g_sub (lv' := [(0, .ref (D.2.2 10 r0)), (1, .int x1), (2, .int x2), (3, .int x3), (4, .int x4), (5, .int x5), (6, .int x6), (7, .int x7_27), (8, .int x8_28), (9, .int x9_29)]) [1, 2, 3, 4, 5, 6, 7, 8, 9, 0] rfl ?_)
    have h := h x9_29 ex9_29
    exact g_sub [0, 1, 2, 3, 4, 5, 6, 7, 8, 9] rfl h
set_option maxRecDepth 20000 in
set_option maxHeartbeats 4000000 in
theorem bl_X10_deeds_3 {l : Launch} {D : gD} {d : Nat} {q : Int32 → gMem → Prop} {Γ : gC} {r0 : Nat} {x1 : Int32} {x2 : Int32} {x3 : Int32} {x4 : Int32} {x5 : Int32} {x6 : Int32} {x7 : Int32} {x8 : Int32} {x9 : Int32} {μ : gMem} (hr0 : r0 < 1) (h : ((x3 ≤ x9) → ∃ j_2 : Nat, j_2 < 115 ∧ x1 = nI j_2 ∧ (((x7 < (μ.1 740 r0 j_2)) → pt_X10_deeds_5 l D d q Γ r0 x1 x2 x3 x4 x5 x6 μ) ∧ ((¬ x7 < (μ.1 740 r0 j_2)) → ((x4 = (-1 : Int32)) → pt_X10_deeds_4 l D d q Γ r0 x1 x2 x3 x6 x8 μ) ∧ ((¬ x4 = (-1 : Int32)) → ((x8 < x5) → pt_X10_deeds_4 l D d q Γ r0 x1 x2 x3 x6 x8 μ) ∧ ((¬ x8 < x5) → pt_X10_deeds_5 l D d q Γ r0 x1 x2 x3 x4 x5 x6 μ))))) ∧ ((¬ x3 ≤ x9) → ∃ (d_6 : Nat) (q_7 : Int32 → gMem → Prop), d_6 < d ∧ Ctr l D d_6 yX10_fives cX10_fives 3 (some .int) [.int ((x3 - (1 : Int32)) - x9)] μ (pI q_7) ∧ ∀ (v_11 : Int32) (μ_10 : gMem), q_7 v_11 μ_10 → (¬ v_11 = 0) ∧ (∀ x10_14 : Int32, x10_14 = (x6 / v_11) - (x6 / v_11) / (5 : Int32) * (5 : Int32) → ∃ j_15 : Nat, j_15 < 12 ∧ x9 = nI j_15 ∧ (∀ x7_16 : Int32, x7_16 = x7 + (x10_14 * (μ_10.1 714 r0 j_15)) → ∃ j_17 : Nat, j_17 < 12 ∧ x9 = nI j_17 ∧ (∀ x8_18 : Int32, x8_18 = x8 + (x10_14 * (μ_10.1 715 r0 j_17)) → ∀ x9_19 : Int32, x9_19 = x9 + (1 : Int32) → pt_X10_deeds_3 l D d q Γ r0 x1 x2 x3 x4 x5 x6 x7_16 x8_18 x9_19 μ_10))))) : pt_X10_deeds_3 l D d q Γ r0 x1 x2 x3 x4 x5 x6 x7 x8 x9 μ := by
  unfold pt_X10_deeds_3
  refine g_iload dX10_deeds_91 rfl ?_
  refine g_iload_n dX10_deeds_93 rfl ?_
  refine g_icmp_ge (tgt := 149) dX10_deeds_94 (by decide) (fun c_1 => ?_) (fun c_1 => ?_)
  · have h := h.1 c_1
    refine g_iload dX10_deeds_149 rfl ?_
    refine g_aload_n dX10_deeds_151 rfl ?_
    refine g_gfR fl_10_75 rfl hr0 dX10_deeds_152 ?_
    refine g_iload_n dX10_deeds_155 rfl ?_
    obtain ⟨j_2, hj_2, ej_2, h⟩ := h
    refine g_iald j_2 hr0 rfl hj_2 (by decide) ej_2 dX10_deeds_156 ?_
    refine g_icmp_lt (tgt := 184) dX10_deeds_157 (by decide) (fun c_3 => ?_) (fun c_3 => ?_)
    · have h := h.1 c_3
      exact g_sub [0, 1, 2, 3, 4, 5, 6] rfl h
    · have h := h.2 c_3
      refine g_iload dX10_deeds_160 rfl ?_
      refine g_iconst (-1 : Int32) dX10_deeds_162 rfl ?_
      refine g_icmp_eq (tgt := 176) dX10_deeds_163 (by decide) (fun c_4 => ?_) (fun c_4 => ?_)
      · have h := h.1 c_4
        exact g_sub [0, 1, 2, 3, 6, 8] rfl h
      · have h := h.2 c_4
        refine g_iload dX10_deeds_166 rfl ?_
        refine g_iload dX10_deeds_168 rfl ?_
        refine g_icmp_lt (tgt := 176) dX10_deeds_170 (by decide) (fun c_5 => ?_) (fun c_5 => ?_)
        · have h := h.1 c_5
          exact g_sub [0, 1, 2, 3, 6, 8] rfl h
        · have h := h.2 c_5
          refine g_goto (tgt := 184) dX10_deeds_173 (by decide) ?_
          exact g_sub [0, 1, 2, 3, 4, 5, 6] rfl h
  · have h := h.2 c_1
    refine g_iload dX10_deeds_97 rfl ?_
    refine g_iload_n dX10_deeds_99 rfl ?_
    refine g_iconst (1 : Int32) dX10_deeds_100 rfl ?_
    refine g_isub dX10_deeds_101 ?_
    refine g_iload dX10_deeds_102 rfl ?_
    refine g_isub dX10_deeds_104 ?_
    obtain ⟨d_6, q_7, hd_8, hc_9, h⟩ := h
    refine g_callS ca_X10_410 hc_9 hd_8 (by decide) rfl rfl (by first | exact Nat.le_of_ble_eq_true rfl | decide) dX10_deeds_105 (kI (fun v_11 μ_10 hq_12 => ?_))
    have h := h v_11 μ_10 hq_12
    obtain ⟨nz_13, h⟩ := h
    refine g_idiv dX10_deeds_108 nz_13 ?_
    refine g_iconst (5 : Int32) dX10_deeds_109 rfl ?_
    refine g_irem dX10_deeds_110 (by decide) ?_
    refine g_istore dX10_deeds_111 (by decide) (fun x10_14 ex10_14 => g_sub (lv' := [(0, .ref (D.2.2 10 r0)), (1, .int x1), (2, .int x2), (3, .int x3), (4, .int x4), (5, .int x5), (6, .int x6), (7, .int x7), (8, .int x8), (9, .int x9), (10, .int x10_14)]) [1, 2, 3, 4, 5, 6, 7, 8, 9, 10, 0] rfl ?_)
    have h := h x10_14 ex10_14
    refine g_iload dX10_deeds_113 rfl ?_
    refine g_iload dX10_deeds_115 rfl ?_
    refine g_aload_n dX10_deeds_117 rfl ?_
    refine g_gfR fl_10_34 rfl hr0 dX10_deeds_118 ?_
    refine g_iload dX10_deeds_121 rfl ?_
    obtain ⟨j_15, hj_15, ej_15, h⟩ := h
    refine g_iald j_15 hr0 rfl hj_15 (by decide) ej_15 dX10_deeds_123 ?_
    refine g_imul dX10_deeds_124 ?_
    refine g_iadd dX10_deeds_125 ?_
    refine g_istore dX10_deeds_126 (by decide) (fun x7_16 ex7_16 => g_sub (lv' := [(0, .ref (D.2.2 10 r0)), (1, .int x1), (2, .int x2), (3, .int x3), (4, .int x4), (5, .int x5), (6, .int x6), (7, .int x7_16), (8, .int x8), (9, .int x9), (10, .int x10_14)]) [1, 2, 3, 4, 5, 6, 7, 0, 8, 9, 10] rfl ?_)
    have h := h x7_16 ex7_16
    refine g_iload dX10_deeds_128 rfl ?_
    refine g_iload dX10_deeds_130 rfl ?_
    refine g_aload_n dX10_deeds_132 rfl ?_
    refine g_gfR fl_10_37 rfl hr0 dX10_deeds_133 ?_
    refine g_iload dX10_deeds_136 rfl ?_
    obtain ⟨j_17, hj_17, ej_17, h⟩ := h
    refine g_iald j_17 hr0 rfl hj_17 (by decide) ej_17 dX10_deeds_138 ?_
    refine g_imul dX10_deeds_139 ?_
    refine g_iadd dX10_deeds_140 ?_
    refine g_istore dX10_deeds_141 (by decide) (fun x8_18 ex8_18 => g_sub (lv' := [(0, .ref (D.2.2 10 r0)), (1, .int x1), (2, .int x2), (3, .int x3), (4, .int x4), (5, .int x5), (6, .int x6), (7, .int x7_16), (8, .int x8_18), (9, .int x9)]) [1, 2, 3, 4, 5, 6, 7, 8, 0, 9] rfl ?_)
    have h := h x8_18 ex8_18
    refine g_iinc dX10_deeds_143 rfl (by decide) (fun x9_19 ex9_19 => g_sub (lv' := [(0, .ref (D.2.2 10 r0)), (1, .int x1), (2, .int x2), (3, .int x3), (4, .int x4), (5, .int x5), (6, .int x6), (7, .int x7_16), (8, .int x8_18), (9, .int x9_19)]) [1, 2, 3, 4, 5, 6, 7, 8, 9, 0] rfl ?_)
    have h := h x9_19 ex9_19
    refine g_goto (tgt := 91) dX10_deeds_146 (by decide) ?_
    exact g_sub [0, 1, 2, 3, 4, 5, 6, 7, 8, 9] rfl h
set_option maxRecDepth 20000 in
set_option maxHeartbeats 4000000 in
theorem bl_X10_deeds_4 {l : Launch} {D : gD} {d : Nat} {q : Int32 → gMem → Prop} {Γ : gC} {r0 : Nat} {x1 : Int32} {x2 : Int32} {x3 : Int32} {x6 : Int32} {x8 : Int32} {μ : gMem} (hr0 : r0 < 1) (h : ∀ x4_1 : Int32, x4_1 = x6 → ∀ x5_2 : Int32, x5_2 = x8 → pt_X10_deeds_5 l D d q Γ r0 x1 x2 x3 x4_1 x5_2 x6 μ) : pt_X10_deeds_4 l D d q Γ r0 x1 x2 x3 x6 x8 μ := by
  unfold pt_X10_deeds_4
  refine g_iload dX10_deeds_176 rfl ?_
  refine g_istore dX10_deeds_178 (by decide) (fun x4_1 ex4_1 => g_sub (lv' := [(0, .ref (D.2.2 10 r0)), (1, .int x1), (2, .int x2), (3, .int x3), (4, .int x4_1), (6, .int x6), (8, .int x8)]) [1, 2, 3, 4, 0, 5, 6] rfl ?_)
  have h := h x4_1 ex4_1
  refine g_iload dX10_deeds_180 rfl ?_
  refine g_istore dX10_deeds_182 (by decide) (fun x5_2 ex5_2 => g_sub (lv' := [(0, .ref (D.2.2 10 r0)), (1, .int x1), (2, .int x2), (3, .int x3), (4, .int x4_1), (5, .int x5_2), (6, .int x6)]) [1, 2, 3, 4, 5, 0, 6] rfl ?_)
  have h := h x5_2 ex5_2
  exact g_sub [0, 1, 2, 3, 4, 5, 6] rfl h
set_option maxRecDepth 20000 in
set_option maxHeartbeats 4000000 in
theorem bl_X10_deeds_5 {l : Launch} {D : gD} {d : Nat} {q : Int32 → gMem → Prop} {Γ : gC} {r0 : Nat} {x1 : Int32} {x2 : Int32} {x3 : Int32} {x4 : Int32} {x5 : Int32} {x6 : Int32} {μ : gMem} (hr0 : r0 < 1) (h : ∀ x6_1 : Int32, x6_1 = x6 + (1 : Int32) → pt_X10_deeds_2 l D d q Γ r0 x1 x2 x3 x4 x5 x6_1 μ) : pt_X10_deeds_5 l D d q Γ r0 x1 x2 x3 x4 x5 x6 μ := by
  unfold pt_X10_deeds_5
  refine g_iinc dX10_deeds_184 rfl (by decide) (fun x6_1 ex6_1 => g_sub (lv' := [(0, .ref (D.2.2 10 r0)), (1, .int x1), (2, .int x2), (3, .int x3), (4, .int x4), (5, .int x5), (6, .int x6_1)]) [1, 2, 3, 4, 5, 6, 0] rfl ?_)
  have h := h x6_1 ex6_1
  refine g_goto (tgt := 57) dX10_deeds_187 (by decide) ?_
  exact g_sub [0, 1, 2, 3, 4, 5, 6] rfl h
theorem en_X10_deeds {l : Launch} {D : gD} {d : Nat} {q : Int32 → gMem → Prop} {r0 : Nat} {x1 : Int32} {x2 : Int32} {μ : gMem} (h : ∀ Γ : gC, pt_X10_deeds_0 l D d q Γ r0 x1 x2 μ) : Ctr l D d yX10_deeds cX10_deeds 11 (some .int) [.ref (D.2.2 10 r0), .int x1, .int x2] μ (pI q) :=
  Ctr_of rfl (by decide) (Nat.le_of_ble_eq_true rfl) (fun Γ => g_sub [0, 1, 2] rfl (h Γ))
def pt_X10_leads_0 (l : Launch) (D : gD) (d : Nat) (q : Int32 → gMem → Prop) (Γ : gC) (r0 : Nat) (μ : gMem) : Prop := G l D RX10 cX10_leads 1 (some .int) d (pI q) Γ 0 [(0, .ref (D.2.2 10 r0))] [] μ
set_option maxRecDepth 20000 in
set_option maxHeartbeats 4000000 in
theorem bl_X10_leads_0 {l : Launch} {D : gD} {d : Nat} {q : Int32 → gMem → Prop} {Γ : gC} {r0 : Nat} {μ : gMem} (hr0 : r0 < 1) (h : ∀ μ_1 : gMem, μ_1 = gsI μ 10 r0 0 (0 : Int32) → ∃ (d_2 : Nat) (q_3 : Int32 → gMem → Prop), d_2 < d ∧ Ctr l D d_2 yX10_leader cX10_leader 4 (some .int) [.ref (D.2.2 10 r0), .int (0 : Int32)] μ_1 (pI q_3) ∧ ∀ (v_7 : Int32) (μ_6 : gMem), q_3 v_7 μ_6 → q v_7 μ_6) : pt_X10_leads_0 l D d q Γ r0 μ := by
  unfold pt_X10_leads_0
  refine g_aload_n dX10_leads_0 rfl ?_
  refine g_iconst (0 : Int32) dX10_leads_1 rfl ?_
  refine g_pfI fi_10_145 hr0 rfl rfl dX10_leads_2 ?_
  obtain ⟨μ_1, eμ_1⟩ : ∃ z : gMem, z = gsI μ 10 r0 0 (0 : Int32) := ⟨_, rfl⟩
  have h := h μ_1 eμ_1
  refine g_mem eμ_1.symm ?_
  refine g_aload_n dX10_leads_5 rfl ?_
  refine g_iconst (0 : Int32) dX10_leads_6 rfl ?_
  obtain ⟨d_2, q_3, hd_4, hc_5, h⟩ := h
  refine g_cV ca_X10_384 ob_10 hc_5 hd_4 (by decide) hr0 rfl rfl (by first | exact Nat.le_of_ble_eq_true rfl | decide) dX10_leads_7 (kI (fun v_7 μ_6 hq_8 => ?_))
  have h := h v_7 μ_6 hq_8
  exact g_iret dX10_leads_10 rfl rfl ⟨_, rfl, h⟩
theorem en_X10_leads {l : Launch} {D : gD} {d : Nat} {q : Int32 → gMem → Prop} {r0 : Nat} {μ : gMem} (h : ∀ Γ : gC, pt_X10_leads_0 l D d q Γ r0 μ) : Ctr l D d yX10_leads cX10_leads 1 (some .int) [.ref (D.2.2 10 r0)] μ (pI q) :=
  Ctr_of rfl (by decide) (Nat.le_of_ble_eq_true rfl) (fun Γ => g_sub [0] rfl (h Γ))
def pt_X10_winsFrom_0 (l : Launch) (D : gD) (d : Nat) (q : Int32 → gMem → Prop) (Γ : gC) (r0 : Nat) (μ : gMem) : Prop := G l D RX10 cX10_winsFrom 1 (some .int) d (pI q) Γ 0 [(0, .ref (D.2.2 10 r0))] [] μ
set_option maxRecDepth 20000 in
set_option maxHeartbeats 4000000 in
theorem bl_X10_winsFrom_0 {l : Launch} {D : gD} {d : Nat} {q : Int32 → gMem → Prop} {Γ : gC} {r0 : Nat} {μ : gMem} (hr0 : r0 < 1) (h : ∃ (d_1 : Nat) (q_2 : gMem → Prop), d_1 < d ∧ Ctr l D d_1 yX10_passes cX10_passes 6 none [.ref (D.2.2 10 r0), .int (1 : Int32), .int (0 : Int32)] μ (pV q_2) ∧ ∀ (μ_5 : gMem), q_2 μ_5 → (((μ_5.1 10 r0 48) = (-1 : Int32)) → pt_X10_winsFrom_0 l D d q Γ r0 μ_5) ∧ ((¬ (μ_5.1 10 r0 48) = (-1 : Int32)) → q (μ_5.1 10 r0 48) μ_5)) : pt_X10_winsFrom_0 l D d q Γ r0 μ := by
  unfold pt_X10_winsFrom_0
  refine g_aload_n dX10_winsFrom_0 rfl ?_
  refine g_iconst (1 : Int32) dX10_winsFrom_1 rfl ?_
  refine g_iconst (0 : Int32) dX10_winsFrom_2 rfl ?_
  obtain ⟨d_1, q_2, hd_3, hc_4, h⟩ := h
  refine g_cV ca_X10_390 ob_10 hc_4 hd_3 (by decide) hr0 rfl rfl (by first | exact Nat.le_of_ble_eq_true rfl | decide) dX10_winsFrom_3 (kV (fun μ_5 hq_7 => ?_))
  have h := h μ_5 hq_7
  refine g_aload_n dX10_winsFrom_6 rfl ?_
  refine g_gfI fi_10_381 hr0 dX10_winsFrom_7 ?_
  refine g_iconst (-1 : Int32) dX10_winsFrom_10 rfl ?_
  refine g_icmp_eq (tgt := 0) dX10_winsFrom_11 (by decide) (fun c_8 => ?_) (fun c_8 => ?_)
  · have h := h.1 c_8
    exact g_sub [0] rfl h
  · have h := h.2 c_8
    refine g_aload_n dX10_winsFrom_14 rfl ?_
    refine g_gfI fi_10_381 hr0 dX10_winsFrom_15 ?_
    exact g_iret dX10_winsFrom_18 rfl rfl ⟨_, rfl, h⟩
theorem en_X10_winsFrom {l : Launch} {D : gD} {d : Nat} {q : Int32 → gMem → Prop} {r0 : Nat} {μ : gMem} (h : ∀ Γ : gC, pt_X10_winsFrom_0 l D d q Γ r0 μ) : Ctr l D d yX10_winsFrom cX10_winsFrom 1 (some .int) [.ref (D.2.2 10 r0)] μ (pI q) :=
  Ctr_of rfl (by decide) (Nat.le_of_ble_eq_true rfl) (fun Γ => g_sub [0] rfl (h Γ))
def pt_X10_winner_0 (l : Launch) (D : gD) (d : Nat) (q : Int32 → gMem → Prop) (Γ : gC) (r0 : Nat) (x1 : Int32) (μ : gMem) : Prop := G l D RX10 cX10_winner 3 (some .int) d (pI q) Γ 0 [(0, .ref (D.2.2 10 r0)), (1, .int x1)] [] μ
set_option maxRecDepth 20000 in
set_option maxHeartbeats 4000000 in
theorem bl_X10_winner_0 {l : Launch} {D : gD} {d : Nat} {q : Int32 → gMem → Prop} {Γ : gC} {r0 : Nat} {x1 : Int32} {μ : gMem} (hr0 : r0 < 1) (h : ∀ μ_1 : gMem, μ_1 = gsI μ 10 r0 0 (0 : Int32) → ((x1 < 0) → q (-1 : Int32) μ_1) ∧ ((¬ x1 < 0) → (((1 : Int32) < x1) → q (-1 : Int32) μ_1) ∧ ((¬ (1 : Int32) < x1) → ∃ j_4 : Nat, j_4 < 20 ∧ (0 : Int32) = nI j_4 ∧ (((¬ (μ_1.1 707 r0 j_4) = 0) → ∃ (d_6 : Nat) (q_7 : gMem → Prop), d_6 < d ∧ Ctr l D d_6 yX10_copies cX10_copies 6 none [.ref (D.2.2 10 r0), .int (1 : Int32), .int (0 : Int32)] μ_1 (pV q_7) ∧ ∀ (μ_10 : gMem), q_7 μ_10 → ∃ (d_13 : Nat) (q_14 : Int32 → gMem → Prop), d_13 < d ∧ Ctr l D d_13 yX10_winsFrom cX10_winsFrom 1 (some .int) [.ref (D.2.2 10 r0)] μ_10 (pI q_14) ∧ ∀ (v_18 : Int32) (μ_17 : gMem), q_14 v_18 μ_17 → ∀ x2_20 : Int32, x2_20 = v_18 → ((¬ x1 = 0) → ∃ j_22 : Nat, j_22 < 23 ∧ (1 : Int32) = nI j_22 ∧ (∃ j_23 : Nat, j_23 < 23 ∧ (0 : Int32) = nI j_23 ∧ (q ((μ_17.1 737 r0 j_22) - (μ_17.1 737 r0 j_23)) μ_17))) ∧ ((x1 = 0) → q x2_20 μ_17)) ∧ (((μ_1.1 707 r0 j_4) = 0) → q (-1 : Int32) μ_1))))) : pt_X10_winner_0 l D d q Γ r0 x1 μ := by
  unfold pt_X10_winner_0
  refine g_aload_n dX10_winner_0 rfl ?_
  refine g_iconst (0 : Int32) dX10_winner_1 rfl ?_
  refine g_pfI fi_10_145 hr0 rfl rfl dX10_winner_2 ?_
  obtain ⟨μ_1, eμ_1⟩ : ∃ z : gMem, z = gsI μ 10 r0 0 (0 : Int32) := ⟨_, rfl⟩
  have h := h μ_1 eμ_1
  refine g_mem eμ_1.symm ?_
  refine g_iload_n dX10_winner_5 rfl ?_
  refine g_if_lt (tgt := 23) dX10_winner_6 (by decide) (fun c_2 => ?_) (fun c_2 => ?_)
  · have h := h.1 c_2
    refine g_iconst (-1 : Int32) dX10_winner_23 rfl ?_
    exact g_iret dX10_winner_24 rfl rfl ⟨_, rfl, h⟩
  · have h := h.2 c_2
    refine g_iload_n dX10_winner_9 rfl ?_
    refine g_iconst (1 : Int32) dX10_winner_10 rfl ?_
    refine g_icmp_gt (tgt := 23) dX10_winner_11 (by decide) (fun c_3 => ?_) (fun c_3 => ?_)
    · have h := h.1 c_3
      refine g_iconst (-1 : Int32) dX10_winner_23 rfl ?_
      exact g_iret dX10_winner_24 rfl rfl ⟨_, rfl, h⟩
    · have h := h.2 c_3
      refine g_aload_n dX10_winner_14 rfl ?_
      refine g_gfR fl_10_13 rfl hr0 dX10_winner_15 ?_
      refine g_iconst (0 : Int32) dX10_winner_18 rfl ?_
      obtain ⟨j_4, hj_4, ej_4, h⟩ := h
      refine g_iald j_4 hr0 rfl hj_4 (by decide) ej_4 dX10_winner_19 ?_
      refine g_if_ne (tgt := 25) dX10_winner_20 (by decide) (fun c_5 => ?_) (fun c_5 => ?_)
      · have h := h.1 c_5
        refine g_aload_n dX10_winner_25 rfl ?_
        refine g_iconst (1 : Int32) dX10_winner_26 rfl ?_
        refine g_iconst (0 : Int32) dX10_winner_27 rfl ?_
        obtain ⟨d_6, q_7, hd_8, hc_9, h⟩ := h
        refine g_cV ca_X10_387 ob_10 hc_9 hd_8 (by decide) hr0 rfl rfl (by first | exact Nat.le_of_ble_eq_true rfl | decide) dX10_winner_28 (kV (fun μ_10 hq_12 => ?_))
        have h := h μ_10 hq_12
        refine g_aload_n dX10_winner_31 rfl ?_
        obtain ⟨d_13, q_14, hd_15, hc_16, h⟩ := h
        refine g_cV ca_X10_413 ob_10 hc_16 hd_15 (by decide) hr0 rfl rfl (by first | exact Nat.le_of_ble_eq_true rfl | decide) dX10_winner_32 (kI (fun v_18 μ_17 hq_19 => ?_))
        have h := h v_18 μ_17 hq_19
        refine g_istore_n dX10_winner_35 (by decide) (fun x2_20 ex2_20 => g_sub (lv' := [(0, .ref (D.2.2 10 r0)), (1, .int x1), (2, .int x2_20)]) [1, 2, 0] rfl ?_)
        have h := h x2_20 ex2_20
        refine g_iload_n dX10_winner_36 rfl ?_
        refine g_if_ne (tgt := 44) dX10_winner_37 (by decide) (fun c_21 => ?_) (fun c_21 => ?_)
        · have h := h.1 c_21
          refine g_aload_n dX10_winner_44 rfl ?_
          refine g_gfR fl_10_66 rfl hr0 dX10_winner_45 ?_
          refine g_iconst (1 : Int32) dX10_winner_48 rfl ?_
          obtain ⟨j_22, hj_22, ej_22, h⟩ := h
          refine g_iald j_22 hr0 rfl hj_22 (by decide) ej_22 dX10_winner_49 ?_
          refine g_aload_n dX10_winner_50 rfl ?_
          refine g_gfR fl_10_66 rfl hr0 dX10_winner_51 ?_
          refine g_iconst (0 : Int32) dX10_winner_54 rfl ?_
          obtain ⟨j_23, hj_23, ej_23, h⟩ := h
          refine g_iald j_23 hr0 rfl hj_23 (by decide) ej_23 dX10_winner_55 ?_
          refine g_isub dX10_winner_56 ?_
          exact g_iret dX10_winner_57 rfl rfl ⟨_, rfl, h⟩
        · have h := h.2 c_21
          refine g_iload_n dX10_winner_40 rfl ?_
          refine g_goto (tgt := 57) dX10_winner_41 (by decide) ?_
          exact g_iret dX10_winner_57 rfl rfl ⟨_, rfl, h⟩
      · have h := h.2 c_5
        refine g_iconst (-1 : Int32) dX10_winner_23 rfl ?_
        exact g_iret dX10_winner_24 rfl rfl ⟨_, rfl, h⟩
theorem en_X10_winner {l : Launch} {D : gD} {d : Nat} {q : Int32 → gMem → Prop} {r0 : Nat} {x1 : Int32} {μ : gMem} (h : ∀ Γ : gC, pt_X10_winner_0 l D d q Γ r0 x1 μ) : Ctr l D d yX10_winner cX10_winner 3 (some .int) [.ref (D.2.2 10 r0), .int x1] μ (pI q) :=
  Ctr_of rfl (by decide) (Nat.le_of_ble_eq_true rfl) (fun Γ => g_sub [0, 1] rfl (h Γ))
def pt_X10_needs_0 (l : Launch) (D : gD) (d : Nat) (q : Int32 → gMem → Prop) (Γ : gC) (r0 : Nat) (x1 : Int32) (μ : gMem) : Prop := G l D RX10 cX10_needs 3 (some .int) d (pI q) Γ 0 [(0, .ref (D.2.2 10 r0)), (1, .int x1)] [] μ
def pt_X10_needs_1 (l : Launch) (D : gD) (d : Nat) (q : Int32 → gMem → Prop) (Γ : gC) (r0 : Nat) (x1 : Int32) (x2 : Int32) (μ : gMem) : Prop := G l D RX10 cX10_needs 3 (some .int) d (pI q) Γ 17 [(0, .ref (D.2.2 10 r0)), (1, .int x1), (2, .int x2)] [] μ
set_option maxRecDepth 20000 in
set_option maxHeartbeats 4000000 in
theorem bl_X10_needs_0 {l : Launch} {D : gD} {d : Nat} {q : Int32 → gMem → Prop} {Γ : gC} {r0 : Nat} {x1 : Int32} {μ : gMem} (hr0 : r0 < 1) (h : ∀ μ_1 : gMem, μ_1 = gsI μ 10 r0 0 (0 : Int32) → ∃ (d_2 : Nat) (q_3 : Int32 → gMem → Prop), d_2 < d ∧ Ctr l D d_2 yX10_isMan cX10_isMan 2 (some .boolean) [.ref (D.2.2 10 r0), .int x1] μ_1 (pI q_3) ∧ ∀ (v_7 : Int32) (μ_6 : gMem), q_3 v_7 μ_6 → ((¬ v_7 = 0) → ∀ x2_10 : Int32, x2_10 = (0 : Int32) → pt_X10_needs_1 l D d q Γ r0 x1 x2_10 μ_6) ∧ ((v_7 = 0) → q (-1 : Int32) μ_6)) : pt_X10_needs_0 l D d q Γ r0 x1 μ := by
  unfold pt_X10_needs_0
  refine g_aload_n dX10_needs_0 rfl ?_
  refine g_iconst (0 : Int32) dX10_needs_1 rfl ?_
  refine g_pfI fi_10_145 hr0 rfl rfl dX10_needs_2 ?_
  obtain ⟨μ_1, eμ_1⟩ : ∃ z : gMem, z = gsI μ 10 r0 0 (0 : Int32) := ⟨_, rfl⟩
  have h := h μ_1 eμ_1
  refine g_mem eμ_1.symm ?_
  refine g_aload_n dX10_needs_5 rfl ?_
  refine g_iload_n dX10_needs_6 rfl ?_
  obtain ⟨d_2, q_3, hd_4, hc_5, h⟩ := h
  refine g_cV ca_X10_394 ob_10 hc_5 hd_4 (by decide) hr0 rfl rfl (by first | exact Nat.le_of_ble_eq_true rfl | decide) dX10_needs_7 (kI (fun v_7 μ_6 hq_8 => ?_))
  have h := h v_7 μ_6 hq_8
  refine g_if_ne (tgt := 15) dX10_needs_10 (by decide) (fun c_9 => ?_) (fun c_9 => ?_)
  · have h := h.1 c_9
    refine g_iconst (0 : Int32) dX10_needs_15 rfl ?_
    refine g_istore_n dX10_needs_16 (by decide) (fun x2_10 ex2_10 => g_sub (lv' := [(0, .ref (D.2.2 10 r0)), (1, .int x1), (2, .int x2_10)]) [1, 2, 0] rfl ?_)
    have h := h x2_10 ex2_10
    exact g_sub [0, 1, 2] rfl h
  · have h := h.2 c_9
    refine g_iconst (-1 : Int32) dX10_needs_13 rfl ?_
    exact g_iret dX10_needs_14 rfl rfl ⟨_, rfl, h⟩
set_option maxRecDepth 20000 in
set_option maxHeartbeats 4000000 in
theorem bl_X10_needs_1 {l : Launch} {D : gD} {d : Nat} {q : Int32 → gMem → Prop} {Γ : gC} {r0 : Nat} {x1 : Int32} {x2 : Int32} {μ : gMem} (hr0 : r0 < 1) (h : (((999 : Int32) < x2) → q (-2 : Int32) μ) ∧ ((¬ (999 : Int32) < x2) → ∃ (d_2 : Nat) (q_3 : gMem → Prop), d_2 < d ∧ Ctr l D d_2 yX10_copies cX10_copies 6 none [.ref (D.2.2 10 r0), .int (1 : Int32), .int (0 : Int32)] μ (pV q_3) ∧ ∀ (μ_6 : gMem), q_3 μ_6 → ∃ j_9 : Nat, j_9 < 115 ∧ (5 : Int32) + x1 = nI j_9 ∧ (∃ j_10 : Nat, j_10 < 115 ∧ (5 : Int32) + x1 = nI j_10 ∧ (∀ μ_11 : gMem, μ_11 = gsI μ_6 744 r0 j_10 ((μ_6.1 744 r0 j_9) + x2) → ∃ (d_12 : Nat) (q_13 : Int32 → gMem → Prop), d_12 < d ∧ Ctr l D d_12 yX10_winsFrom cX10_winsFrom 1 (some .int) [.ref (D.2.2 10 r0)] μ_11 (pI q_13) ∧ ∀ (v_17 : Int32) (μ_16 : gMem), q_13 v_17 μ_16 → ((¬ v_17 = x1) → ∀ x2_20 : Int32, x2_20 = x2 + (1 : Int32) → pt_X10_needs_1 l D d q Γ r0 x1 x2_20 μ_16) ∧ ((v_17 = x1) → q x2 μ_16))))) : pt_X10_needs_1 l D d q Γ r0 x1 x2 μ := by
  unfold pt_X10_needs_1
  refine g_iload_n dX10_needs_17 rfl ?_
  refine g_sipush (999 : Int32) dX10_needs_18 rfl ?_
  refine g_icmp_gt (tgt := 58) dX10_needs_21 (by decide) (fun c_1 => ?_) (fun c_1 => ?_)
  · have h := h.1 c_1
    refine g_bipush (-2 : Int32) dX10_needs_58 rfl ?_
    exact g_iret dX10_needs_60 rfl rfl ⟨_, rfl, h⟩
  · have h := h.2 c_1
    refine g_aload_n dX10_needs_24 rfl ?_
    refine g_iconst (1 : Int32) dX10_needs_25 rfl ?_
    refine g_iconst (0 : Int32) dX10_needs_26 rfl ?_
    obtain ⟨d_2, q_3, hd_4, hc_5, h⟩ := h
    refine g_cV ca_X10_387 ob_10 hc_5 hd_4 (by decide) hr0 rfl rfl (by first | exact Nat.le_of_ble_eq_true rfl | decide) dX10_needs_27 (kV (fun μ_6 hq_8 => ?_))
    have h := h μ_6 hq_8
    refine g_aload_n dX10_needs_30 rfl ?_
    refine g_gfR fl_10_87 rfl hr0 dX10_needs_31 ?_
    refine g_iconst (5 : Int32) dX10_needs_34 rfl ?_
    refine g_iload_n dX10_needs_35 rfl ?_
    refine g_iadd dX10_needs_36 ?_
    refine g_dup2 dX10_needs_37 rfl rfl ?_
    obtain ⟨j_9, hj_9, ej_9, h⟩ := h
    refine g_iald j_9 hr0 rfl hj_9 (by decide) ej_9 dX10_needs_38 ?_
    refine g_iload_n dX10_needs_39 rfl ?_
    refine g_iadd dX10_needs_40 ?_
    obtain ⟨j_10, hj_10, ej_10, h⟩ := h
    refine g_iast j_10 hr0 rfl hj_10 (by decide) ej_10 dX10_needs_41 ?_
    obtain ⟨μ_11, eμ_11⟩ : ∃ z : gMem, z = gsI μ_6 744 r0 j_10 ((μ_6.1 744 r0 j_9) + x2) := ⟨_, rfl⟩
    have h := h μ_11 eμ_11
    refine g_mem eμ_11.symm ?_
    refine g_aload_n dX10_needs_42 rfl ?_
    obtain ⟨d_12, q_13, hd_14, hc_15, h⟩ := h
    refine g_cV ca_X10_413 ob_10 hc_15 hd_14 (by decide) hr0 rfl rfl (by first | exact Nat.le_of_ble_eq_true rfl | decide) dX10_needs_43 (kI (fun v_17 μ_16 hq_18 => ?_))
    have h := h v_17 μ_16 hq_18
    refine g_iload_n dX10_needs_46 rfl ?_
    refine g_icmp_ne (tgt := 52) dX10_needs_47 (by decide) (fun c_19 => ?_) (fun c_19 => ?_)
    · have h := h.1 c_19
      refine g_iinc dX10_needs_52 rfl (by decide) (fun x2_20 ex2_20 => g_sub (lv' := [(0, .ref (D.2.2 10 r0)), (1, .int x1), (2, .int x2_20)]) [1, 2, 0] rfl ?_)
      have h := h x2_20 ex2_20
      refine g_goto (tgt := 17) dX10_needs_55 (by decide) ?_
      exact g_sub [0, 1, 2] rfl h
    · have h := h.2 c_19
      refine g_iload_n dX10_needs_50 rfl ?_
      exact g_iret dX10_needs_51 rfl rfl ⟨_, rfl, h⟩
theorem en_X10_needs {l : Launch} {D : gD} {d : Nat} {q : Int32 → gMem → Prop} {r0 : Nat} {x1 : Int32} {μ : gMem} (h : ∀ Γ : gC, pt_X10_needs_0 l D d q Γ r0 x1 μ) : Ctr l D d yX10_needs cX10_needs 3 (some .int) [.ref (D.2.2 10 r0), .int x1] μ (pI q) :=
  Ctr_of rfl (by decide) (Nat.le_of_ble_eq_true rfl) (fun Γ => g_sub [0, 1] rfl (h Γ))
def pt_X10_rank_0 (l : Launch) (D : gD) (d : Nat) (q : Int32 → gMem → Prop) (Γ : gC) (r0 : Nat) (x1 : Int32) (μ : gMem) : Prop := G l D RX10 cX10_rank 4 (some .int) d (pI q) Γ 0 [(0, .ref (D.2.2 10 r0)), (1, .int x1)] [] μ
def pt_X10_rank_1 (l : Launch) (D : gD) (d : Nat) (q : Int32 → gMem → Prop) (Γ : gC) (r0 : Nat) (x1 : Int32) (x2 : Int32) (x3 : Int32) (μ : gMem) : Prop := G l D RX10 cX10_rank 4 (some .int) d (pI q) Γ 19 [(0, .ref (D.2.2 10 r0)), (1, .int x1), (2, .int x2), (3, .int x3)] [] μ
def pt_X10_rank_2 (l : Launch) (D : gD) (d : Nat) (q : Int32 → gMem → Prop) (Γ : gC) (r0 : Nat) (x1 : Int32) (x3 : Int32) (xs0 : Int32) (μ : gMem) : Prop := G l D RX10 cX10_rank 4 (some .int) d (pI q) Γ 65 [(0, .ref (D.2.2 10 r0)), (1, .int x1), (3, .int x3)] [.int xs0] μ
def pt_X10_rank_3 (l : Launch) (D : gD) (d : Nat) (q : Int32 → gMem → Prop) (Γ : gC) (r0 : Nat) (x1 : Int32) (x3 : Int32) (xs0 : Int32) (μ : gMem) : Prop := G l D RX10 cX10_rank 4 (some .int) d (pI q) Γ 69 [(0, .ref (D.2.2 10 r0)), (1, .int x1), (3, .int x3)] [.int xs0] μ
def pt_X10_rank_4 (l : Launch) (D : gD) (d : Nat) (q : Int32 → gMem → Prop) (Γ : gC) (r0 : Nat) (x1 : Int32) (x3 : Int32) (xs0 : Int32) (xs1 : Int32) (μ : gMem) : Prop := G l D RX10 cX10_rank 4 (some .int) d (pI q) Γ 70 [(0, .ref (D.2.2 10 r0)), (1, .int x1), (3, .int x3)] [.int xs1, .int xs0] μ
set_option maxRecDepth 20000 in
set_option maxHeartbeats 4000000 in
theorem bl_X10_rank_0 {l : Launch} {D : gD} {d : Nat} {q : Int32 → gMem → Prop} {Γ : gC} {r0 : Nat} {x1 : Int32} {μ : gMem} (hr0 : r0 < 1) (h : ∀ μ_1 : gMem, μ_1 = gsI μ 10 r0 0 (0 : Int32) → ∃ (d_2 : Nat) (q_3 : Int32 → gMem → Prop), d_2 < d ∧ Ctr l D d_2 yX10_isMan cX10_isMan 2 (some .boolean) [.ref (D.2.2 10 r0), .int x1] μ_1 (pI q_3) ∧ ∀ (v_7 : Int32) (μ_6 : gMem), q_3 v_7 μ_6 → ((¬ v_7 = 0) → ∀ x2_10 : Int32, x2_10 = (0 : Int32) → ∀ x3_11 : Int32, x3_11 = (0 : Int32) → pt_X10_rank_1 l D d q Γ r0 x1 x2_10 x3_11 μ_6) ∧ ((v_7 = 0) → q (-1 : Int32) μ_6)) : pt_X10_rank_0 l D d q Γ r0 x1 μ := by
  unfold pt_X10_rank_0
  refine g_aload_n dX10_rank_0 rfl ?_
  refine g_iconst (0 : Int32) dX10_rank_1 rfl ?_
  refine g_pfI fi_10_145 hr0 rfl rfl dX10_rank_2 ?_
  obtain ⟨μ_1, eμ_1⟩ : ∃ z : gMem, z = gsI μ 10 r0 0 (0 : Int32) := ⟨_, rfl⟩
  have h := h μ_1 eμ_1
  refine g_mem eμ_1.symm ?_
  refine g_aload_n dX10_rank_5 rfl ?_
  refine g_iload_n dX10_rank_6 rfl ?_
  obtain ⟨d_2, q_3, hd_4, hc_5, h⟩ := h
  refine g_cV ca_X10_394 ob_10 hc_5 hd_4 (by decide) hr0 rfl rfl (by first | exact Nat.le_of_ble_eq_true rfl | decide) dX10_rank_7 (kI (fun v_7 μ_6 hq_8 => ?_))
  have h := h v_7 μ_6 hq_8
  refine g_if_ne (tgt := 15) dX10_rank_10 (by decide) (fun c_9 => ?_) (fun c_9 => ?_)
  · have h := h.1 c_9
    refine g_iconst (0 : Int32) dX10_rank_15 rfl ?_
    refine g_istore_n dX10_rank_16 (by decide) (fun x2_10 ex2_10 => g_sub (lv' := [(0, .ref (D.2.2 10 r0)), (1, .int x1), (2, .int x2_10)]) [1, 2, 0] rfl ?_)
    have h := h x2_10 ex2_10
    refine g_iconst (0 : Int32) dX10_rank_17 rfl ?_
    refine g_istore_n dX10_rank_18 (by decide) (fun x3_11 ex3_11 => g_sub (lv' := [(0, .ref (D.2.2 10 r0)), (1, .int x1), (2, .int x2_10), (3, .int x3_11)]) [1, 2, 3, 0] rfl ?_)
    have h := h x3_11 ex3_11
    exact g_sub [0, 1, 2, 3] rfl h
  · have h := h.2 c_9
    refine g_iconst (-1 : Int32) dX10_rank_13 rfl ?_
    exact g_iret dX10_rank_14 rfl rfl ⟨_, rfl, h⟩
set_option maxRecDepth 20000 in
set_option maxHeartbeats 4000000 in
theorem bl_X10_rank_1 {l : Launch} {D : gD} {d : Nat} {q : Int32 → gMem → Prop} {Γ : gC} {r0 : Nat} {x1 : Int32} {x2 : Int32} {x3 : Int32} {μ : gMem} (hr0 : r0 < 1) (h : ∃ j_1 : Nat, j_1 < 20 ∧ (0 : Int32) = nI j_1 ∧ ((((μ.1 707 r0 j_1) ≤ x3) → q x2 μ) ∧ ((¬ (μ.1 707 r0 j_1) ≤ x3) → ∃ j_3 : Nat, j_3 < 115 ∧ x3 = nI j_3 ∧ (∃ j_4 : Nat, j_4 < 115 ∧ x1 = nI j_4 ∧ ((((μ.1 744 r0 j_4) < (μ.1 744 r0 j_3)) → pt_X10_rank_2 l D d q Γ r0 x1 x3 x2 μ) ∧ ((¬ (μ.1 744 r0 j_4) < (μ.1 744 r0 j_3)) → ∃ j_6 : Nat, j_6 < 115 ∧ x3 = nI j_6 ∧ (∃ j_7 : Nat, j_7 < 115 ∧ x1 = nI j_7 ∧ (((¬ (μ.1 744 r0 j_6) = (μ.1 744 r0 j_7)) → pt_X10_rank_3 l D d q Γ r0 x1 x3 x2 μ) ∧ (((μ.1 744 r0 j_6) = (μ.1 744 r0 j_7)) → ((x1 ≤ x3) → pt_X10_rank_3 l D d q Γ r0 x1 x3 x2 μ) ∧ ((¬ x1 ≤ x3) → pt_X10_rank_2 l D d q Γ r0 x1 x3 x2 μ)))))))))) : pt_X10_rank_1 l D d q Γ r0 x1 x2 x3 μ := by
  unfold pt_X10_rank_1
  refine g_iload_n dX10_rank_19 rfl ?_
  refine g_aload_n dX10_rank_20 rfl ?_
  refine g_gfR fl_10_13 rfl hr0 dX10_rank_21 ?_
  refine g_iconst (0 : Int32) dX10_rank_24 rfl ?_
  obtain ⟨j_1, hj_1, ej_1, h⟩ := h
  refine g_iald j_1 hr0 rfl hj_1 (by decide) ej_1 dX10_rank_25 ?_
  refine g_icmp_ge (tgt := 78) dX10_rank_26 (by decide) (fun c_2 => ?_) (fun c_2 => ?_)
  · have h := h.1 c_2
    refine g_iload_n dX10_rank_78 rfl ?_
    exact g_iret dX10_rank_79 rfl rfl ⟨_, rfl, h⟩
  · have h := h.2 c_2
    refine g_iload_n dX10_rank_29 rfl ?_
    refine g_aload_n dX10_rank_30 rfl ?_
    refine g_gfR fl_10_87 rfl hr0 dX10_rank_31 ?_
    refine g_iload_n dX10_rank_34 rfl ?_
    obtain ⟨j_3, hj_3, ej_3, h⟩ := h
    refine g_iald j_3 hr0 rfl hj_3 (by decide) ej_3 dX10_rank_35 ?_
    refine g_aload_n dX10_rank_36 rfl ?_
    refine g_gfR fl_10_87 rfl hr0 dX10_rank_37 ?_
    refine g_iload_n dX10_rank_40 rfl ?_
    obtain ⟨j_4, hj_4, ej_4, h⟩ := h
    refine g_iald j_4 hr0 rfl hj_4 (by decide) ej_4 dX10_rank_41 ?_
    refine g_icmp_gt (tgt := 65) dX10_rank_42 (by decide) (fun c_5 => ?_) (fun c_5 => ?_)
    · have h := h.1 c_5
      exact g_sub [0, 1, 3] rfl h
    · have h := h.2 c_5
      refine g_aload_n dX10_rank_45 rfl ?_
      refine g_gfR fl_10_87 rfl hr0 dX10_rank_46 ?_
      refine g_iload_n dX10_rank_49 rfl ?_
      obtain ⟨j_6, hj_6, ej_6, h⟩ := h
      refine g_iald j_6 hr0 rfl hj_6 (by decide) ej_6 dX10_rank_50 ?_
      refine g_aload_n dX10_rank_51 rfl ?_
      refine g_gfR fl_10_87 rfl hr0 dX10_rank_52 ?_
      refine g_iload_n dX10_rank_55 rfl ?_
      obtain ⟨j_7, hj_7, ej_7, h⟩ := h
      refine g_iald j_7 hr0 rfl hj_7 (by decide) ej_7 dX10_rank_56 ?_
      refine g_icmp_ne (tgt := 69) dX10_rank_57 (by decide) (fun c_8 => ?_) (fun c_8 => ?_)
      · have h := h.1 c_8
        exact g_sub [0, 1, 3] rfl h
      · have h := h.2 c_8
        refine g_iload_n dX10_rank_60 rfl ?_
        refine g_iload_n dX10_rank_61 rfl ?_
        refine g_icmp_ge (tgt := 69) dX10_rank_62 (by decide) (fun c_9 => ?_) (fun c_9 => ?_)
        · have h := h.1 c_9
          exact g_sub [0, 1, 3] rfl h
        · have h := h.2 c_9
          exact g_sub [0, 1, 3] rfl h
set_option maxRecDepth 20000 in
set_option maxHeartbeats 4000000 in
theorem bl_X10_rank_2 {l : Launch} {D : gD} {d : Nat} {q : Int32 → gMem → Prop} {Γ : gC} {r0 : Nat} {x1 : Int32} {x3 : Int32} {xs0 : Int32} {μ : gMem} (hr0 : r0 < 1) (h : pt_X10_rank_4 l D d q Γ r0 x1 x3 xs0 (1 : Int32) μ) : pt_X10_rank_2 l D d q Γ r0 x1 x3 xs0 μ := by
  unfold pt_X10_rank_2
  refine g_iconst (1 : Int32) dX10_rank_65 rfl ?_
  refine g_goto (tgt := 70) dX10_rank_66 (by decide) ?_
  exact g_sub [0, 1, 2] rfl h
set_option maxRecDepth 20000 in
set_option maxHeartbeats 4000000 in
theorem bl_X10_rank_3 {l : Launch} {D : gD} {d : Nat} {q : Int32 → gMem → Prop} {Γ : gC} {r0 : Nat} {x1 : Int32} {x3 : Int32} {xs0 : Int32} {μ : gMem} (hr0 : r0 < 1) (h : pt_X10_rank_4 l D d q Γ r0 x1 x3 xs0 (0 : Int32) μ) : pt_X10_rank_3 l D d q Γ r0 x1 x3 xs0 μ := by
  unfold pt_X10_rank_3
  refine g_iconst (0 : Int32) dX10_rank_69 rfl ?_
  exact g_sub [0, 1, 2] rfl h
set_option maxRecDepth 20000 in
set_option maxHeartbeats 4000000 in
theorem bl_X10_rank_4 {l : Launch} {D : gD} {d : Nat} {q : Int32 → gMem → Prop} {Γ : gC} {r0 : Nat} {x1 : Int32} {x3 : Int32} {xs0 : Int32} {xs1 : Int32} {μ : gMem} (hr0 : r0 < 1) (h : ∀ x2_1 : Int32, x2_1 = xs0 + xs1 → ∀ x3_2 : Int32, x3_2 = x3 + (1 : Int32) → pt_X10_rank_1 l D d q Γ r0 x1 x2_1 x3_2 μ) : pt_X10_rank_4 l D d q Γ r0 x1 x3 xs0 xs1 μ := by
  unfold pt_X10_rank_4
  refine g_iadd dX10_rank_70 ?_
  refine g_istore_n dX10_rank_71 (by decide) (fun x2_1 ex2_1 => g_sub (lv' := [(0, .ref (D.2.2 10 r0)), (1, .int x1), (2, .int x2_1), (3, .int x3)]) [1, 2, 0, 3] rfl ?_)
  have h := h x2_1 ex2_1
  refine g_iinc dX10_rank_72 rfl (by decide) (fun x3_2 ex3_2 => g_sub (lv' := [(0, .ref (D.2.2 10 r0)), (1, .int x1), (2, .int x2_1), (3, .int x3_2)]) [1, 2, 3, 0] rfl ?_)
  have h := h x3_2 ex3_2
  refine g_goto (tgt := 19) dX10_rank_75 (by decide) ?_
  exact g_sub [0, 1, 2, 3] rfl h
theorem en_X10_rank {l : Launch} {D : gD} {d : Nat} {q : Int32 → gMem → Prop} {r0 : Nat} {x1 : Int32} {μ : gMem} (h : ∀ Γ : gC, pt_X10_rank_0 l D d q Γ r0 x1 μ) : Ctr l D d yX10_rank cX10_rank 4 (some .int) [.ref (D.2.2 10 r0), .int x1] μ (pI q) :=
  Ctr_of rfl (by decide) (Nat.le_of_ble_eq_true rfl) (fun Γ => g_sub [0, 1] rfl (h Γ))
def pt_X10_falls_0 (l : Launch) (D : gD) (d : Nat) (q : Int32 → gMem → Prop) (Γ : gC) (r0 : Nat) (x1 : Int32) (x2 : Int32) (μ : gMem) : Prop := G l D RX10 cX10_falls 3 (some .int) d (pI q) Γ 0 [(0, .ref (D.2.2 10 r0)), (1, .int x1), (2, .int x2)] [] μ
set_option maxRecDepth 20000 in
set_option maxHeartbeats 4000000 in
theorem bl_X10_falls_0 {l : Launch} {D : gD} {d : Nat} {q : Int32 → gMem → Prop} {Γ : gC} {r0 : Nat} {x1 : Int32} {x2 : Int32} {μ : gMem} (hr0 : r0 < 1) (h : ∀ μ_1 : gMem, μ_1 = gsI μ 10 r0 0 (0 : Int32) → ∃ (d_2 : Nat) (q_3 : Int32 → gMem → Prop), d_2 < d ∧ Ctr l D d_2 yX10_isMan cX10_isMan 2 (some .boolean) [.ref (D.2.2 10 r0), .int x1] μ_1 (pI q_3) ∧ ∀ (v_7 : Int32) (μ_6 : gMem), q_3 v_7 μ_6 → ((v_7 = 0) → q (-1 : Int32) μ_6) ∧ ((¬ v_7 = 0) → ((x2 < 0) → q (-1 : Int32) μ_6) ∧ ((¬ x2 < 0) → ((x2 ≤ (99 : Int32)) → ∃ (d_12 : Nat) (q_13 : gMem → Prop), d_12 < d ∧ Ctr l D d_12 yX10_runs cX10_runs 3 none [.ref (D.2.2 10 r0), .int x2] μ_6 (pV q_13) ∧ ∀ (μ_16 : gMem), q_13 μ_16 → ∃ j_19 : Nat, j_19 < 115 ∧ (5 : Int32) + x1 = nI j_19 ∧ (∃ j_20 : Nat, j_20 < 115 ∧ x1 = nI j_20 ∧ (q ((μ_16.1 743 r0 j_19) - (μ_16.1 743 r0 j_20)) μ_16))) ∧ ((¬ x2 ≤ (99 : Int32)) → q (-1 : Int32) μ_6)))) : pt_X10_falls_0 l D d q Γ r0 x1 x2 μ := by
  unfold pt_X10_falls_0
  refine g_aload_n dX10_falls_0 rfl ?_
  refine g_iconst (0 : Int32) dX10_falls_1 rfl ?_
  refine g_pfI fi_10_145 hr0 rfl rfl dX10_falls_2 ?_
  obtain ⟨μ_1, eμ_1⟩ : ∃ z : gMem, z = gsI μ 10 r0 0 (0 : Int32) := ⟨_, rfl⟩
  have h := h μ_1 eμ_1
  refine g_mem eμ_1.symm ?_
  refine g_aload_n dX10_falls_5 rfl ?_
  refine g_iload_n dX10_falls_6 rfl ?_
  obtain ⟨d_2, q_3, hd_4, hc_5, h⟩ := h
  refine g_cV ca_X10_394 ob_10 hc_5 hd_4 (by decide) hr0 rfl rfl (by first | exact Nat.le_of_ble_eq_true rfl | decide) dX10_falls_7 (kI (fun v_7 μ_6 hq_8 => ?_))
  have h := h v_7 μ_6 hq_8
  refine g_if_eq (tgt := 23) dX10_falls_10 (by decide) (fun c_9 => ?_) (fun c_9 => ?_)
  · have h := h.1 c_9
    refine g_iconst (-1 : Int32) dX10_falls_23 rfl ?_
    exact g_iret dX10_falls_24 rfl rfl ⟨_, rfl, h⟩
  · have h := h.2 c_9
    refine g_iload_n dX10_falls_13 rfl ?_
    refine g_if_lt (tgt := 23) dX10_falls_14 (by decide) (fun c_10 => ?_) (fun c_10 => ?_)
    · have h := h.1 c_10
      refine g_iconst (-1 : Int32) dX10_falls_23 rfl ?_
      exact g_iret dX10_falls_24 rfl rfl ⟨_, rfl, h⟩
    · have h := h.2 c_10
      refine g_iload_n dX10_falls_17 rfl ?_
      refine g_bipush (99 : Int32) dX10_falls_18 rfl ?_
      refine g_icmp_le (tgt := 25) dX10_falls_20 (by decide) (fun c_11 => ?_) (fun c_11 => ?_)
      · have h := h.1 c_11
        refine g_aload_n dX10_falls_25 rfl ?_
        refine g_iload_n dX10_falls_26 rfl ?_
        obtain ⟨d_12, q_13, hd_14, hc_15, h⟩ := h
        refine g_cV ca_X10_407 ob_10 hc_15 hd_14 (by decide) hr0 rfl rfl (by first | exact Nat.le_of_ble_eq_true rfl | decide) dX10_falls_27 (kV (fun μ_16 hq_18 => ?_))
        have h := h μ_16 hq_18
        refine g_aload_n dX10_falls_30 rfl ?_
        refine g_gfR fl_10_84 rfl hr0 dX10_falls_31 ?_
        refine g_iconst (5 : Int32) dX10_falls_34 rfl ?_
        refine g_iload_n dX10_falls_35 rfl ?_
        refine g_iadd dX10_falls_36 ?_
        obtain ⟨j_19, hj_19, ej_19, h⟩ := h
        refine g_iald j_19 hr0 rfl hj_19 (by decide) ej_19 dX10_falls_37 ?_
        refine g_aload_n dX10_falls_38 rfl ?_
        refine g_gfR fl_10_84 rfl hr0 dX10_falls_39 ?_
        refine g_iload_n dX10_falls_42 rfl ?_
        obtain ⟨j_20, hj_20, ej_20, h⟩ := h
        refine g_iald j_20 hr0 rfl hj_20 (by decide) ej_20 dX10_falls_43 ?_
        refine g_isub dX10_falls_44 ?_
        exact g_iret dX10_falls_45 rfl rfl ⟨_, rfl, h⟩
      · have h := h.2 c_11
        refine g_iconst (-1 : Int32) dX10_falls_23 rfl ?_
        exact g_iret dX10_falls_24 rfl rfl ⟨_, rfl, h⟩
theorem en_X10_falls {l : Launch} {D : gD} {d : Nat} {q : Int32 → gMem → Prop} {r0 : Nat} {x1 : Int32} {x2 : Int32} {μ : gMem} (h : ∀ Γ : gC, pt_X10_falls_0 l D d q Γ r0 x1 x2 μ) : Ctr l D d yX10_falls cX10_falls 3 (some .int) [.ref (D.2.2 10 r0), .int x1, .int x2] μ (pI q) :=
  Ctr_of rfl (by decide) (Nat.le_of_ble_eq_true rfl) (fun Γ => g_sub [0, 1, 2] rfl (h Γ))
def pt_X10_earns_0 (l : Launch) (D : gD) (d : Nat) (q : Int32 → gMem → Prop) (Γ : gC) (r0 : Nat) (x1 : Int32) (x2 : Int32) (x3 : Int32) (μ : gMem) : Prop := G l D RX10 cX10_earns 5 (some .int) d (pI q) Γ 0 [(0, .ref (D.2.2 10 r0)), (1, .int x1), (2, .int x2), (3, .int x3)] [] μ
set_option maxRecDepth 20000 in
set_option maxHeartbeats 4000000 in
theorem bl_X10_earns_0 {l : Launch} {D : gD} {d : Nat} {q : Int32 → gMem → Prop} {Γ : gC} {r0 : Nat} {x1 : Int32} {x2 : Int32} {x3 : Int32} {μ : gMem} (hr0 : r0 < 1) (h : ∀ μ_1 : gMem, μ_1 = gsI μ 10 r0 0 (0 : Int32) → ∃ (d_2 : Nat) (q_3 : Int32 → gMem → Prop), d_2 < d ∧ Ctr l D d_2 yX10_isMan cX10_isMan 2 (some .boolean) [.ref (D.2.2 10 r0), .int x1] μ_1 (pI q_3) ∧ ∀ (v_7 : Int32) (μ_6 : gMem), q_3 v_7 μ_6 → ((v_7 = 0) → q (-1 : Int32) μ_6) ∧ ((¬ v_7 = 0) → ((x2 < 0) → q (-1 : Int32) μ_6) ∧ ((¬ x2 < 0) → (((60 : Int32) < x2) → q (-1 : Int32) μ_6) ∧ ((¬ (60 : Int32) < x2) → ((x3 < 0) → q (-1 : Int32) μ_6) ∧ ((¬ x3 < 0) → ((x3 ≤ (1 : Int32)) → ∃ (d_14 : Nat) (q_15 : gMem → Prop), d_14 < d ∧ Ctr l D d_14 yX10_runs cX10_runs 3 none [.ref (D.2.2 10 r0), .int x2] μ_6 (pV q_15) ∧ ∀ (μ_18 : gMem), q_15 μ_18 → ∀ x4_21 : Int32, x4_21 = (5 : Int32) + x1 → ((¬ x3 = 0) → ∃ j_23 : Nat, j_23 < 115 ∧ x4_21 = nI j_23 ∧ (∃ j_24 : Nat, j_24 < 115 ∧ x1 = nI j_24 ∧ (q ((μ_18.1 750 r0 j_23) - (μ_18.1 750 r0 j_24)) μ_18))) ∧ ((x3 = 0) → ∃ j_25 : Nat, j_25 < 115 ∧ x4_21 = nI j_25 ∧ (∃ j_26 : Nat, j_26 < 115 ∧ x1 = nI j_26 ∧ (q ((μ_18.1 749 r0 j_25) - (μ_18.1 749 r0 j_26)) μ_18)))) ∧ ((¬ x3 ≤ (1 : Int32)) → q (-1 : Int32) μ_6)))))) : pt_X10_earns_0 l D d q Γ r0 x1 x2 x3 μ := by
  unfold pt_X10_earns_0
  refine g_aload_n dX10_earns_0 rfl ?_
  refine g_iconst (0 : Int32) dX10_earns_1 rfl ?_
  refine g_pfI fi_10_145 hr0 rfl rfl dX10_earns_2 ?_
  obtain ⟨μ_1, eμ_1⟩ : ∃ z : gMem, z = gsI μ 10 r0 0 (0 : Int32) := ⟨_, rfl⟩
  have h := h μ_1 eμ_1
  refine g_mem eμ_1.symm ?_
  refine g_aload_n dX10_earns_5 rfl ?_
  refine g_iload_n dX10_earns_6 rfl ?_
  obtain ⟨d_2, q_3, hd_4, hc_5, h⟩ := h
  refine g_cV ca_X10_394 ob_10 hc_5 hd_4 (by decide) hr0 rfl rfl (by first | exact Nat.le_of_ble_eq_true rfl | decide) dX10_earns_7 (kI (fun v_7 μ_6 hq_8 => ?_))
  have h := h v_7 μ_6 hq_8
  refine g_if_eq (tgt := 32) dX10_earns_10 (by decide) (fun c_9 => ?_) (fun c_9 => ?_)
  · have h := h.1 c_9
    refine g_iconst (-1 : Int32) dX10_earns_32 rfl ?_
    exact g_iret dX10_earns_33 rfl rfl ⟨_, rfl, h⟩
  · have h := h.2 c_9
    refine g_iload_n dX10_earns_13 rfl ?_
    refine g_if_lt (tgt := 32) dX10_earns_14 (by decide) (fun c_10 => ?_) (fun c_10 => ?_)
    · have h := h.1 c_10
      refine g_iconst (-1 : Int32) dX10_earns_32 rfl ?_
      exact g_iret dX10_earns_33 rfl rfl ⟨_, rfl, h⟩
    · have h := h.2 c_10
      refine g_iload_n dX10_earns_17 rfl ?_
      refine g_bipush (60 : Int32) dX10_earns_18 rfl ?_
      refine g_icmp_gt (tgt := 32) dX10_earns_20 (by decide) (fun c_11 => ?_) (fun c_11 => ?_)
      · have h := h.1 c_11
        refine g_iconst (-1 : Int32) dX10_earns_32 rfl ?_
        exact g_iret dX10_earns_33 rfl rfl ⟨_, rfl, h⟩
      · have h := h.2 c_11
        refine g_iload_n dX10_earns_23 rfl ?_
        refine g_if_lt (tgt := 32) dX10_earns_24 (by decide) (fun c_12 => ?_) (fun c_12 => ?_)
        · have h := h.1 c_12
          refine g_iconst (-1 : Int32) dX10_earns_32 rfl ?_
          exact g_iret dX10_earns_33 rfl rfl ⟨_, rfl, h⟩
        · have h := h.2 c_12
          refine g_iload_n dX10_earns_27 rfl ?_
          refine g_iconst (1 : Int32) dX10_earns_28 rfl ?_
          refine g_icmp_le (tgt := 34) dX10_earns_29 (by decide) (fun c_13 => ?_) (fun c_13 => ?_)
          · have h := h.1 c_13
            refine g_aload_n dX10_earns_34 rfl ?_
            refine g_iload_n dX10_earns_35 rfl ?_
            obtain ⟨d_14, q_15, hd_16, hc_17, h⟩ := h
            refine g_cV ca_X10_407 ob_10 hc_17 hd_16 (by decide) hr0 rfl rfl (by first | exact Nat.le_of_ble_eq_true rfl | decide) dX10_earns_36 (kV (fun μ_18 hq_20 => ?_))
            have h := h μ_18 hq_20
            refine g_iconst (5 : Int32) dX10_earns_39 rfl ?_
            refine g_iload_n dX10_earns_40 rfl ?_
            refine g_iadd dX10_earns_41 ?_
            refine g_istore dX10_earns_42 (by decide) (fun x4_21 ex4_21 => g_sub (lv' := [(0, .ref (D.2.2 10 r0)), (1, .int x1), (3, .int x3), (4, .int x4_21)]) [1, 2, 4, 0] rfl ?_)
            have h := h x4_21 ex4_21
            refine g_iload_n dX10_earns_44 rfl ?_
            refine g_if_ne (tgt := 65) dX10_earns_45 (by decide) (fun c_22 => ?_) (fun c_22 => ?_)
            · have h := h.1 c_22
              refine g_aload_n dX10_earns_65 rfl ?_
              refine g_gfR fl_10_105 rfl hr0 dX10_earns_66 ?_
              refine g_iload dX10_earns_69 rfl ?_
              obtain ⟨j_23, hj_23, ej_23, h⟩ := h
              refine g_iald j_23 hr0 rfl hj_23 (by decide) ej_23 dX10_earns_71 ?_
              refine g_aload_n dX10_earns_72 rfl ?_
              refine g_gfR fl_10_105 rfl hr0 dX10_earns_73 ?_
              refine g_iload_n dX10_earns_76 rfl ?_
              obtain ⟨j_24, hj_24, ej_24, h⟩ := h
              refine g_iald j_24 hr0 rfl hj_24 (by decide) ej_24 dX10_earns_77 ?_
              refine g_isub dX10_earns_78 ?_
              exact g_iret dX10_earns_79 rfl rfl ⟨_, rfl, h⟩
            · have h := h.2 c_22
              refine g_aload_n dX10_earns_48 rfl ?_
              refine g_gfR fl_10_102 rfl hr0 dX10_earns_49 ?_
              refine g_iload dX10_earns_52 rfl ?_
              obtain ⟨j_25, hj_25, ej_25, h⟩ := h
              refine g_iald j_25 hr0 rfl hj_25 (by decide) ej_25 dX10_earns_54 ?_
              refine g_aload_n dX10_earns_55 rfl ?_
              refine g_gfR fl_10_102 rfl hr0 dX10_earns_56 ?_
              refine g_iload_n dX10_earns_59 rfl ?_
              obtain ⟨j_26, hj_26, ej_26, h⟩ := h
              refine g_iald j_26 hr0 rfl hj_26 (by decide) ej_26 dX10_earns_60 ?_
              refine g_isub dX10_earns_61 ?_
              refine g_goto (tgt := 79) dX10_earns_62 (by decide) ?_
              exact g_iret dX10_earns_79 rfl rfl ⟨_, rfl, h⟩
          · have h := h.2 c_13
            refine g_iconst (-1 : Int32) dX10_earns_32 rfl ?_
            exact g_iret dX10_earns_33 rfl rfl ⟨_, rfl, h⟩
theorem en_X10_earns {l : Launch} {D : gD} {d : Nat} {q : Int32 → gMem → Prop} {r0 : Nat} {x1 : Int32} {x2 : Int32} {x3 : Int32} {μ : gMem} (h : ∀ Γ : gC, pt_X10_earns_0 l D d q Γ r0 x1 x2 x3 μ) : Ctr l D d yX10_earns cX10_earns 5 (some .int) [.ref (D.2.2 10 r0), .int x1, .int x2, .int x3] μ (pI q) :=
  Ctr_of rfl (by decide) (Nat.le_of_ble_eq_true rfl) (fun Γ => g_sub [0, 1, 2, 3] rfl (h Γ))
def pt_X10_layFurther_0 (l : Launch) (D : gD) (d : Nat) (q : gMem → Prop) (Γ : gC) (r0 : Nat) (x1 : Int32) (x2 : Int32) (μ : gMem) : Prop := G l D RX10 cX10_layFurther 5 none d (pV q) Γ 0 [(0, .ref (D.2.2 10 r0)), (1, .int x1), (2, .int x2)] [] μ
def pt_X10_layFurther_1 (l : Launch) (D : gD) (d : Nat) (q : gMem → Prop) (Γ : gC) (r0 : Nat) (x1 : Int32) (x2 : Int32) (x3 : Int32) (μ : gMem) : Prop := G l D RX10 cX10_layFurther 5 none d (pV q) Γ 2 [(0, .ref (D.2.2 10 r0)), (1, .int x1), (2, .int x2), (3, .int x3)] [] μ
def pt_X10_layFurther_2 (l : Launch) (D : gD) (d : Nat) (q : gMem → Prop) (Γ : gC) (r0 : Nat) (x1 : Int32) (x2 : Int32) (x3 : Int32) (x4 : Int32) (rs0 : Nat) (xs1 : Int32) (xs2 : Int32) (μ : gMem) : Prop := G l D RX10 cX10_layFurther 5 none d (pV q) Γ 75 [(0, .ref (D.2.2 10 r0)), (1, .int x1), (2, .int x2), (3, .int x3), (4, .int x4)] [.int xs2, .int xs1, .ref (D.2.2 757 rs0)] μ
def pt_X10_layFurther_3 (l : Launch) (D : gD) (d : Nat) (q : gMem → Prop) (Γ : gC) (r0 : Nat) (x1 : Int32) (x2 : Int32) (x3 : Int32) (rs0 : Nat) (xs1 : Int32) (xs2 : Int32) (μ : gMem) : Prop := G l D RX10 cX10_layFurther 5 none d (pV q) Γ 103 [(0, .ref (D.2.2 10 r0)), (1, .int x1), (2, .int x2), (3, .int x3)] [.int xs2, .int xs1, .ref (D.2.2 758 rs0)] μ
set_option maxRecDepth 20000 in
set_option maxHeartbeats 4000000 in
theorem bl_X10_layFurther_0 {l : Launch} {D : gD} {d : Nat} {q : gMem → Prop} {Γ : gC} {r0 : Nat} {x1 : Int32} {x2 : Int32} {μ : gMem} (hr0 : r0 < 1) (h : ∀ x3_1 : Int32, x3_1 = (0 : Int32) → pt_X10_layFurther_1 l D d q Γ r0 x1 x2 x3_1 μ) : pt_X10_layFurther_0 l D d q Γ r0 x1 x2 μ := by
  unfold pt_X10_layFurther_0
  refine g_iconst (0 : Int32) dX10_layFurther_0 rfl ?_
  refine g_istore_n dX10_layFurther_1 (by decide) (fun x3_1 ex3_1 => g_sub (lv' := [(0, .ref (D.2.2 10 r0)), (1, .int x1), (2, .int x2), (3, .int x3_1)]) [1, 2, 3, 0] rfl ?_)
  have h := h x3_1 ex3_1
  exact g_sub [0, 1, 2, 3] rfl h
set_option maxRecDepth 20000 in
set_option maxHeartbeats 4000000 in
theorem bl_X10_layFurther_1 {l : Launch} {D : gD} {d : Nat} {q : gMem → Prop} {Γ : gC} {r0 : Nat} {x1 : Int32} {x2 : Int32} {x3 : Int32} {μ : gMem} (hr0 : r0 < 1) (h : (((25 : Int32) ≤ x3) → q μ) ∧ ((¬ (25 : Int32) ≤ x3) → ∃ (d_2 : Nat) (q_3 : gMem → Prop), d_2 < d ∧ Ctr l D d_2 yX10_copies cX10_copies 6 none [.ref (D.2.2 10 r0), .int (1 : Int32), .int (0 : Int32)] μ (pV q_3) ∧ ∀ (μ_6 : gMem), q_3 μ_6 → ∃ j_9 : Nat, j_9 < 115 ∧ (5 : Int32) + x1 = nI j_9 ∧ (∃ j_10 : Nat, j_10 < 115 ∧ (5 : Int32) + x1 = nI j_10 ∧ (∀ μ_11 : gMem, μ_11 = gsI μ_6 748 r0 j_10 ((μ_6.1 748 r0 j_9) + ((10 : Int32) * (x3 / (5 : Int32)))) → ∃ j_12 : Nat, j_12 < 115 ∧ (5 : Int32) + x2 = nI j_12 ∧ (∃ j_13 : Nat, j_13 < 115 ∧ (5 : Int32) + x2 = nI j_13 ∧ (∀ μ_14 : gMem, μ_14 = gsI μ_11 748 r0 j_13 ((μ_11.1 748 r0 j_12) + ((10 : Int32) * (x3 - x3 / (5 : Int32) * (5 : Int32)))) → ∃ (d_15 : Nat) (q_16 : Int32 → gMem → Prop), d_15 < d ∧ Ctr l D d_15 yX10_winsFrom cX10_winsFrom 1 (some .int) [.ref (D.2.2 10 r0)] μ_14 (pI q_16) ∧ ∀ (v_20 : Int32) (μ_19 : gMem), q_16 v_20 μ_19 → ∀ x4_22 : Int32, x4_22 = v_20 → ((¬ x4_22 = x1) → pt_X10_layFurther_2 l D d q Γ r0 x1 x2 x3 x4_22 r0 x3 (0 : Int32) μ_19) ∧ ((x4_22 = x1) → ∃ j_24 : Nat, j_24 < 20 ∧ (3 : Int32) = nI j_24 ∧ (pt_X10_layFurther_2 l D d q Γ r0 x1 x2 x3 x4_22 r0 x3 (μ_19.1 707 r0 j_24) μ_19)))))))) : pt_X10_layFurther_1 l D d q Γ r0 x1 x2 x3 μ := by
  unfold pt_X10_layFurther_1
  refine g_iload_n dX10_layFurther_2 rfl ?_
  refine g_bipush (25 : Int32) dX10_layFurther_3 rfl ?_
  refine g_icmp_ge (tgt := 116) dX10_layFurther_5 (by decide) (fun c_1 => ?_) (fun c_1 => ?_)
  · have h := h.1 c_1
    exact g_vret dX10_layFurther_116 rfl ⟨rfl, h⟩
  · have h := h.2 c_1
    refine g_aload_n dX10_layFurther_8 rfl ?_
    refine g_iconst (1 : Int32) dX10_layFurther_9 rfl ?_
    refine g_iconst (0 : Int32) dX10_layFurther_10 rfl ?_
    obtain ⟨d_2, q_3, hd_4, hc_5, h⟩ := h
    refine g_cV ca_X10_387 ob_10 hc_5 hd_4 (by decide) hr0 rfl rfl (by first | exact Nat.le_of_ble_eq_true rfl | decide) dX10_layFurther_11 (kV (fun μ_6 hq_8 => ?_))
    have h := h μ_6 hq_8
    refine g_aload_n dX10_layFurther_14 rfl ?_
    refine g_gfR fl_10_99 rfl hr0 dX10_layFurther_15 ?_
    refine g_iconst (5 : Int32) dX10_layFurther_18 rfl ?_
    refine g_iload_n dX10_layFurther_19 rfl ?_
    refine g_iadd dX10_layFurther_20 ?_
    refine g_dup2 dX10_layFurther_21 rfl rfl ?_
    obtain ⟨j_9, hj_9, ej_9, h⟩ := h
    refine g_iald j_9 hr0 rfl hj_9 (by decide) ej_9 dX10_layFurther_22 ?_
    refine g_bipush (10 : Int32) dX10_layFurther_23 rfl ?_
    refine g_iload_n dX10_layFurther_25 rfl ?_
    refine g_iconst (5 : Int32) dX10_layFurther_26 rfl ?_
    refine g_idiv dX10_layFurther_27 (by decide) ?_
    refine g_imul dX10_layFurther_28 ?_
    refine g_iadd dX10_layFurther_29 ?_
    obtain ⟨j_10, hj_10, ej_10, h⟩ := h
    refine g_iast j_10 hr0 rfl hj_10 (by decide) ej_10 dX10_layFurther_30 ?_
    obtain ⟨μ_11, eμ_11⟩ : ∃ z : gMem, z = gsI μ_6 748 r0 j_10 ((μ_6.1 748 r0 j_9) + ((10 : Int32) * (x3 / (5 : Int32)))) := ⟨_, rfl⟩
    have h := h μ_11 eμ_11
    refine g_mem eμ_11.symm ?_
    refine g_aload_n dX10_layFurther_31 rfl ?_
    refine g_gfR fl_10_99 rfl hr0 dX10_layFurther_32 ?_
    refine g_iconst (5 : Int32) dX10_layFurther_35 rfl ?_
    refine g_iload_n dX10_layFurther_36 rfl ?_
    refine g_iadd dX10_layFurther_37 ?_
    refine g_dup2 dX10_layFurther_38 rfl rfl ?_
    obtain ⟨j_12, hj_12, ej_12, h⟩ := h
    refine g_iald j_12 hr0 rfl hj_12 (by decide) ej_12 dX10_layFurther_39 ?_
    refine g_bipush (10 : Int32) dX10_layFurther_40 rfl ?_
    refine g_iload_n dX10_layFurther_42 rfl ?_
    refine g_iconst (5 : Int32) dX10_layFurther_43 rfl ?_
    refine g_irem dX10_layFurther_44 (by decide) ?_
    refine g_imul dX10_layFurther_45 ?_
    refine g_iadd dX10_layFurther_46 ?_
    obtain ⟨j_13, hj_13, ej_13, h⟩ := h
    refine g_iast j_13 hr0 rfl hj_13 (by decide) ej_13 dX10_layFurther_47 ?_
    obtain ⟨μ_14, eμ_14⟩ : ∃ z : gMem, z = gsI μ_11 748 r0 j_13 ((μ_11.1 748 r0 j_12) + ((10 : Int32) * (x3 - x3 / (5 : Int32) * (5 : Int32)))) := ⟨_, rfl⟩
    have h := h μ_14 eμ_14
    refine g_mem eμ_14.symm ?_
    refine g_aload_n dX10_layFurther_48 rfl ?_
    obtain ⟨d_15, q_16, hd_17, hc_18, h⟩ := h
    refine g_cV ca_X10_413 ob_10 hc_18 hd_17 (by decide) hr0 rfl rfl (by first | exact Nat.le_of_ble_eq_true rfl | decide) dX10_layFurther_49 (kI (fun v_20 μ_19 hq_21 => ?_))
    have h := h v_20 μ_19 hq_21
    refine g_istore dX10_layFurther_52 (by decide) (fun x4_22 ex4_22 => g_sub (lv' := [(0, .ref (D.2.2 10 r0)), (1, .int x1), (2, .int x2), (3, .int x3), (4, .int x4_22)]) [1, 2, 3, 4, 0] rfl ?_)
    have h := h x4_22 ex4_22
    refine g_aload_n dX10_layFurther_54 rfl ?_
    refine g_gfR fl_10_114 rfl hr0 dX10_layFurther_55 ?_
    refine g_iload_n dX10_layFurther_58 rfl ?_
    refine g_iload dX10_layFurther_59 rfl ?_
    refine g_iload_n dX10_layFurther_61 rfl ?_
    refine g_icmp_ne (tgt := 74) dX10_layFurther_62 (by decide) (fun c_23 => ?_) (fun c_23 => ?_)
    · have h := h.1 c_23
      refine g_iconst (0 : Int32) dX10_layFurther_74 rfl ?_
      exact g_sub [0, 1, 2, 3, 4] rfl h
    · have h := h.2 c_23
      refine g_aload_n dX10_layFurther_65 rfl ?_
      refine g_gfR fl_10_13 rfl hr0 dX10_layFurther_66 ?_
      refine g_iconst (3 : Int32) dX10_layFurther_69 rfl ?_
      obtain ⟨j_24, hj_24, ej_24, h⟩ := h
      refine g_iald j_24 hr0 rfl hj_24 (by decide) ej_24 dX10_layFurther_70 ?_
      refine g_goto (tgt := 75) dX10_layFurther_71 (by decide) ?_
      exact g_sub [0, 1, 2, 3, 4] rfl h
set_option maxRecDepth 20000 in
set_option maxHeartbeats 4000000 in
theorem bl_X10_layFurther_2 {l : Launch} {D : gD} {d : Nat} {q : gMem → Prop} {Γ : gC} {r0 : Nat} {x1 : Int32} {x2 : Int32} {x3 : Int32} {x4 : Int32} {rs0 : Nat} {xs1 : Int32} {xs2 : Int32} {μ : gMem} (hr0 : r0 < 1) (hrs0 : rs0 < 1) (h : ∃ j_1 : Nat, j_1 < 25 ∧ xs1 = nI j_1 ∧ (∀ μ_2 : gMem, μ_2 = gsI μ 757 rs0 j_1 (xs2 - ((3 : Int32) * (x3 / (5 : Int32)))) → ((¬ x4 = x2) → pt_X10_layFurther_3 l D d q Γ r0 x1 x2 x3 r0 x3 (0 : Int32) μ_2) ∧ ((x4 = x2) → ∃ j_4 : Nat, j_4 < 20 ∧ (3 : Int32) = nI j_4 ∧ (pt_X10_layFurther_3 l D d q Γ r0 x1 x2 x3 r0 x3 (μ_2.1 707 r0 j_4) μ_2)))) : pt_X10_layFurther_2 l D d q Γ r0 x1 x2 x3 x4 rs0 xs1 xs2 μ := by
  unfold pt_X10_layFurther_2
  refine g_iconst (3 : Int32) dX10_layFurther_75 rfl ?_
  refine g_iload_n dX10_layFurther_76 rfl ?_
  refine g_iconst (5 : Int32) dX10_layFurther_77 rfl ?_
  refine g_idiv dX10_layFurther_78 (by decide) ?_
  refine g_imul dX10_layFurther_79 ?_
  refine g_isub dX10_layFurther_80 ?_
  obtain ⟨j_1, hj_1, ej_1, h⟩ := h
  refine g_iast j_1 hrs0 rfl hj_1 (by decide) ej_1 dX10_layFurther_81 ?_
  obtain ⟨μ_2, eμ_2⟩ : ∃ z : gMem, z = gsI μ 757 rs0 j_1 (xs2 - ((3 : Int32) * (x3 / (5 : Int32)))) := ⟨_, rfl⟩
  have h := h μ_2 eμ_2
  refine g_mem eμ_2.symm ?_
  refine g_aload_n dX10_layFurther_82 rfl ?_
  refine g_gfR fl_10_117 rfl hr0 dX10_layFurther_83 ?_
  refine g_iload_n dX10_layFurther_86 rfl ?_
  refine g_iload dX10_layFurther_87 rfl ?_
  refine g_iload_n dX10_layFurther_89 rfl ?_
  refine g_icmp_ne (tgt := 102) dX10_layFurther_90 (by decide) (fun c_3 => ?_) (fun c_3 => ?_)
  · have h := h.1 c_3
    refine g_iconst (0 : Int32) dX10_layFurther_102 rfl ?_
    exact g_sub [0, 1, 2, 3] rfl h
  · have h := h.2 c_3
    refine g_aload_n dX10_layFurther_93 rfl ?_
    refine g_gfR fl_10_13 rfl hr0 dX10_layFurther_94 ?_
    refine g_iconst (3 : Int32) dX10_layFurther_97 rfl ?_
    obtain ⟨j_4, hj_4, ej_4, h⟩ := h
    refine g_iald j_4 hr0 rfl hj_4 (by decide) ej_4 dX10_layFurther_98 ?_
    refine g_goto (tgt := 103) dX10_layFurther_99 (by decide) ?_
    exact g_sub [0, 1, 2, 3] rfl h
set_option maxRecDepth 20000 in
set_option maxHeartbeats 4000000 in
theorem bl_X10_layFurther_3 {l : Launch} {D : gD} {d : Nat} {q : gMem → Prop} {Γ : gC} {r0 : Nat} {x1 : Int32} {x2 : Int32} {x3 : Int32} {rs0 : Nat} {xs1 : Int32} {xs2 : Int32} {μ : gMem} (hr0 : r0 < 1) (hrs0 : rs0 < 1) (h : ∃ j_1 : Nat, j_1 < 25 ∧ xs1 = nI j_1 ∧ (∀ μ_2 : gMem, μ_2 = gsI μ 758 rs0 j_1 (xs2 - ((3 : Int32) * (x3 - x3 / (5 : Int32) * (5 : Int32)))) → ∀ x3_3 : Int32, x3_3 = x3 + (1 : Int32) → pt_X10_layFurther_1 l D d q Γ r0 x1 x2 x3_3 μ_2)) : pt_X10_layFurther_3 l D d q Γ r0 x1 x2 x3 rs0 xs1 xs2 μ := by
  unfold pt_X10_layFurther_3
  refine g_iconst (3 : Int32) dX10_layFurther_103 rfl ?_
  refine g_iload_n dX10_layFurther_104 rfl ?_
  refine g_iconst (5 : Int32) dX10_layFurther_105 rfl ?_
  refine g_irem dX10_layFurther_106 (by decide) ?_
  refine g_imul dX10_layFurther_107 ?_
  refine g_isub dX10_layFurther_108 ?_
  obtain ⟨j_1, hj_1, ej_1, h⟩ := h
  refine g_iast j_1 hrs0 rfl hj_1 (by decide) ej_1 dX10_layFurther_109 ?_
  obtain ⟨μ_2, eμ_2⟩ : ∃ z : gMem, z = gsI μ 758 rs0 j_1 (xs2 - ((3 : Int32) * (x3 - x3 / (5 : Int32) * (5 : Int32)))) := ⟨_, rfl⟩
  have h := h μ_2 eμ_2
  refine g_mem eμ_2.symm ?_
  refine g_iinc dX10_layFurther_110 rfl (by decide) (fun x3_3 ex3_3 => g_sub (lv' := [(0, .ref (D.2.2 10 r0)), (1, .int x1), (2, .int x2), (3, .int x3_3)]) [1, 2, 3, 0] rfl ?_)
  have h := h x3_3 ex3_3
  refine g_goto (tgt := 2) dX10_layFurther_113 (by decide) ?_
  exact g_sub [0, 1, 2, 3] rfl h
theorem en_X10_layFurther {l : Launch} {D : gD} {d : Nat} {q : gMem → Prop} {r0 : Nat} {x1 : Int32} {x2 : Int32} {μ : gMem} (h : ∀ Γ : gC, pt_X10_layFurther_0 l D d q Γ r0 x1 x2 μ) : Ctr l D d yX10_layFurther cX10_layFurther 5 none [.ref (D.2.2 10 r0), .int x1, .int x2] μ (pV q) :=
  Ctr_of rfl (by decide) (Nat.le_of_ble_eq_true rfl) (fun Γ => g_sub [0, 1, 2] rfl (h Γ))
def pt_X10_isRest_0 (l : Launch) (D : gD) (d : Nat) (q : Int32 → gMem → Prop) (Γ : gC) (r0 : Nat) (x1 : Int32) (μ : gMem) : Prop := G l D RX10 cX10_isRest 3 (some .boolean) d (pI q) Γ 0 [(0, .ref (D.2.2 10 r0)), (1, .int x1)] [] μ
def pt_X10_isRest_1 (l : Launch) (D : gD) (d : Nat) (q : Int32 → gMem → Prop) (Γ : gC) (r0 : Nat) (x1 : Int32) (x2 : Int32) (μ : gMem) : Prop := G l D RX10 cX10_isRest 3 (some .boolean) d (pI q) Γ 2 [(0, .ref (D.2.2 10 r0)), (1, .int x1), (2, .int x2)] [] μ
set_option maxRecDepth 20000 in
set_option maxHeartbeats 4000000 in
theorem bl_X10_isRest_0 {l : Launch} {D : gD} {d : Nat} {q : Int32 → gMem → Prop} {Γ : gC} {r0 : Nat} {x1 : Int32} {μ : gMem} (hr0 : r0 < 1) (h : ∀ x2_1 : Int32, x2_1 = (0 : Int32) → pt_X10_isRest_1 l D d q Γ r0 x1 x2_1 μ) : pt_X10_isRest_0 l D d q Γ r0 x1 μ := by
  unfold pt_X10_isRest_0
  refine g_iconst (0 : Int32) dX10_isRest_0 rfl ?_
  refine g_istore_n dX10_isRest_1 (by decide) (fun x2_1 ex2_1 => g_sub (lv' := [(0, .ref (D.2.2 10 r0)), (1, .int x1), (2, .int x2_1)]) [1, 2, 0] rfl ?_)
  have h := h x2_1 ex2_1
  exact g_sub [0, 1, 2] rfl h
set_option maxRecDepth 20000 in
set_option maxHeartbeats 4000000 in
theorem bl_X10_isRest_1 {l : Launch} {D : gD} {d : Nat} {q : Int32 → gMem → Prop} {Γ : gC} {r0 : Nat} {x1 : Int32} {x2 : Int32} {μ : gMem} (hr0 : r0 < 1) (h : (((5 : Int32) ≤ x2) → q (1 : Int32) μ) ∧ ((¬ (5 : Int32) ≤ x2) → ∃ j_2 : Nat, j_2 < 25 ∧ ((5 : Int32) * x2) + (x1 - x1 / (5 : Int32) * (5 : Int32)) = nI j_2 ∧ (∃ j_3 : Nat, j_3 < 25 ∧ x1 = nI j_3 ∧ ((((μ.1 757 r0 j_3) < (μ.1 757 r0 j_2)) → q (0 : Int32) μ) ∧ ((¬ (μ.1 757 r0 j_3) < (μ.1 757 r0 j_2)) → ∃ j_5 : Nat, j_5 < 25 ∧ ((x1 / (5 : Int32)) * (5 : Int32)) + x2 = nI j_5 ∧ (∃ j_6 : Nat, j_6 < 25 ∧ x1 = nI j_6 ∧ ((((μ.1 758 r0 j_5) ≤ (μ.1 758 r0 j_6)) → ∀ x2_8 : Int32, x2_8 = x2 + (1 : Int32) → pt_X10_isRest_1 l D d q Γ r0 x1 x2_8 μ) ∧ ((¬ (μ.1 758 r0 j_5) ≤ (μ.1 758 r0 j_6)) → q (0 : Int32) μ)))))))) : pt_X10_isRest_1 l D d q Γ r0 x1 x2 μ := by
  unfold pt_X10_isRest_1
  refine g_iload_n dX10_isRest_2 rfl ?_
  refine g_iconst (5 : Int32) dX10_isRest_3 rfl ?_
  refine g_icmp_ge (tgt := 57) dX10_isRest_4 (by decide) (fun c_1 => ?_) (fun c_1 => ?_)
  · have h := h.1 c_1
    refine g_iconst (1 : Int32) dX10_isRest_57 rfl ?_
    exact g_iret dX10_isRest_58 rfl rfl ⟨_, rfl, h⟩
  · have h := h.2 c_1
    refine g_aload_n dX10_isRest_7 rfl ?_
    refine g_gfR fl_10_114 rfl hr0 dX10_isRest_8 ?_
    refine g_iconst (5 : Int32) dX10_isRest_11 rfl ?_
    refine g_iload_n dX10_isRest_12 rfl ?_
    refine g_imul dX10_isRest_13 ?_
    refine g_iload_n dX10_isRest_14 rfl ?_
    refine g_iconst (5 : Int32) dX10_isRest_15 rfl ?_
    refine g_irem dX10_isRest_16 (by decide) ?_
    refine g_iadd dX10_isRest_17 ?_
    obtain ⟨j_2, hj_2, ej_2, h⟩ := h
    refine g_iald j_2 hr0 rfl hj_2 (by decide) ej_2 dX10_isRest_18 ?_
    refine g_aload_n dX10_isRest_19 rfl ?_
    refine g_gfR fl_10_114 rfl hr0 dX10_isRest_20 ?_
    refine g_iload_n dX10_isRest_23 rfl ?_
    obtain ⟨j_3, hj_3, ej_3, h⟩ := h
    refine g_iald j_3 hr0 rfl hj_3 (by decide) ej_3 dX10_isRest_24 ?_
    refine g_icmp_gt (tgt := 49) dX10_isRest_25 (by decide) (fun c_4 => ?_) (fun c_4 => ?_)
    · have h := h.1 c_4
      refine g_iconst (0 : Int32) dX10_isRest_49 rfl ?_
      exact g_iret dX10_isRest_50 rfl rfl ⟨_, rfl, h⟩
    · have h := h.2 c_4
      refine g_aload_n dX10_isRest_28 rfl ?_
      refine g_gfR fl_10_117 rfl hr0 dX10_isRest_29 ?_
      refine g_iload_n dX10_isRest_32 rfl ?_
      refine g_iconst (5 : Int32) dX10_isRest_33 rfl ?_
      refine g_idiv dX10_isRest_34 (by decide) ?_
      refine g_iconst (5 : Int32) dX10_isRest_35 rfl ?_
      refine g_imul dX10_isRest_36 ?_
      refine g_iload_n dX10_isRest_37 rfl ?_
      refine g_iadd dX10_isRest_38 ?_
      obtain ⟨j_5, hj_5, ej_5, h⟩ := h
      refine g_iald j_5 hr0 rfl hj_5 (by decide) ej_5 dX10_isRest_39 ?_
      refine g_aload_n dX10_isRest_40 rfl ?_
      refine g_gfR fl_10_117 rfl hr0 dX10_isRest_41 ?_
      refine g_iload_n dX10_isRest_44 rfl ?_
      obtain ⟨j_6, hj_6, ej_6, h⟩ := h
      refine g_iald j_6 hr0 rfl hj_6 (by decide) ej_6 dX10_isRest_45 ?_
      refine g_icmp_le (tgt := 51) dX10_isRest_46 (by decide) (fun c_7 => ?_) (fun c_7 => ?_)
      · have h := h.1 c_7
        refine g_iinc dX10_isRest_51 rfl (by decide) (fun x2_8 ex2_8 => g_sub (lv' := [(0, .ref (D.2.2 10 r0)), (1, .int x1), (2, .int x2_8)]) [1, 2, 0] rfl ?_)
        have h := h x2_8 ex2_8
        refine g_goto (tgt := 2) dX10_isRest_54 (by decide) ?_
        exact g_sub [0, 1, 2] rfl h
      · have h := h.2 c_7
        refine g_iconst (0 : Int32) dX10_isRest_49 rfl ?_
        exact g_iret dX10_isRest_50 rfl rfl ⟨_, rfl, h⟩
theorem en_X10_isRest {l : Launch} {D : gD} {d : Nat} {q : Int32 → gMem → Prop} {r0 : Nat} {x1 : Int32} {μ : gMem} (h : ∀ Γ : gC, pt_X10_isRest_0 l D d q Γ r0 x1 μ) : Ctr l D d yX10_isRest cX10_isRest 3 (some .boolean) [.ref (D.2.2 10 r0), .int x1] μ (pI q) :=
  Ctr_of rfl (by decide) (Nat.le_of_ble_eq_true rfl) (fun Γ => g_sub [0, 1] rfl (h Γ))
def pt_X10_restOf_0 (l : Launch) (D : gD) (d : Nat) (q : Int32 → gMem → Prop) (Γ : gC) (r0 : Nat) (x1 : Int32) (μ : gMem) : Prop := G l D RX10 cX10_restOf 4 (some .int) d (pI q) Γ 0 [(0, .ref (D.2.2 10 r0)), (1, .int x1)] [] μ
def pt_X10_restOf_1 (l : Launch) (D : gD) (d : Nat) (q : Int32 → gMem → Prop) (Γ : gC) (r0 : Nat) (x1 : Int32) (x2 : Int32) (x3 : Int32) (μ : gMem) : Prop := G l D RX10 cX10_restOf 4 (some .int) d (pI q) Γ 4 [(0, .ref (D.2.2 10 r0)), (1, .int x1), (2, .int x2), (3, .int x3)] [] μ
def pt_X10_restOf_2 (l : Launch) (D : gD) (d : Nat) (q : Int32 → gMem → Prop) (Γ : gC) (r0 : Nat) (x1 : Int32) (x2 : Int32) (x3 : Int32) (μ : gMem) : Prop := G l D RX10 cX10_restOf 4 (some .int) d (pI q) Γ 40 [(0, .ref (D.2.2 10 r0)), (1, .int x1), (2, .int x2), (3, .int x3)] [] μ
set_option maxRecDepth 20000 in
set_option maxHeartbeats 4000000 in
theorem bl_X10_restOf_0 {l : Launch} {D : gD} {d : Nat} {q : Int32 → gMem → Prop} {Γ : gC} {r0 : Nat} {x1 : Int32} {μ : gMem} (hr0 : r0 < 1) (h : ∀ x2_1 : Int32, x2_1 = (0 : Int32) → ∀ x3_2 : Int32, x3_2 = (0 : Int32) → pt_X10_restOf_1 l D d q Γ r0 x1 x2_1 x3_2 μ) : pt_X10_restOf_0 l D d q Γ r0 x1 μ := by
  unfold pt_X10_restOf_0
  refine g_iconst (0 : Int32) dX10_restOf_0 rfl ?_
  refine g_istore_n dX10_restOf_1 (by decide) (fun x2_1 ex2_1 => g_sub (lv' := [(0, .ref (D.2.2 10 r0)), (1, .int x1), (2, .int x2_1)]) [1, 2, 0] rfl ?_)
  have h := h x2_1 ex2_1
  refine g_iconst (0 : Int32) dX10_restOf_2 rfl ?_
  refine g_istore_n dX10_restOf_3 (by decide) (fun x3_2 ex3_2 => g_sub (lv' := [(0, .ref (D.2.2 10 r0)), (1, .int x1), (2, .int x2_1), (3, .int x3_2)]) [1, 2, 3, 0] rfl ?_)
  have h := h x3_2 ex3_2
  exact g_sub [0, 1, 2, 3] rfl h
set_option maxRecDepth 20000 in
set_option maxHeartbeats 4000000 in
theorem bl_X10_restOf_1 {l : Launch} {D : gD} {d : Nat} {q : Int32 → gMem → Prop} {Γ : gC} {r0 : Nat} {x1 : Int32} {x2 : Int32} {x3 : Int32} {μ : gMem} (hr0 : r0 < 1) (h : (((25 : Int32) ≤ x3) → ((¬ x1 = (-1 : Int32)) → q (-2 : Int32) μ) ∧ ((x1 = (-1 : Int32)) → q x2 μ)) ∧ ((¬ (25 : Int32) ≤ x3) → ∃ (d_3 : Nat) (q_4 : Int32 → gMem → Prop), d_3 < d ∧ Ctr l D d_3 yX10_isRest cX10_isRest 3 (some .boolean) [.ref (D.2.2 10 r0), .int x3] μ (pI q_4) ∧ ∀ (v_8 : Int32) (μ_7 : gMem), q_4 v_8 μ_7 → ((¬ v_8 = 0) → ((¬ x2 = x1) → ∀ x2_12 : Int32, x2_12 = x2 + (1 : Int32) → pt_X10_restOf_2 l D d q Γ r0 x1 x2_12 x3 μ_7) ∧ ((x2 = x1) → q (((10 : Int32) * (x3 / (5 : Int32))) + (x3 - x3 / (5 : Int32) * (5 : Int32))) μ_7)) ∧ ((v_8 = 0) → pt_X10_restOf_2 l D d q Γ r0 x1 x2 x3 μ_7))) : pt_X10_restOf_1 l D d q Γ r0 x1 x2 x3 μ := by
  unfold pt_X10_restOf_1
  refine g_iload_n dX10_restOf_4 rfl ?_
  refine g_bipush (25 : Int32) dX10_restOf_5 rfl ?_
  refine g_icmp_ge (tgt := 46) dX10_restOf_7 (by decide) (fun c_1 => ?_) (fun c_1 => ?_)
  · have h := h.1 c_1
    refine g_iload_n dX10_restOf_46 rfl ?_
    refine g_iconst (-1 : Int32) dX10_restOf_47 rfl ?_
    refine g_icmp_ne (tgt := 55) dX10_restOf_48 (by decide) (fun c_2 => ?_) (fun c_2 => ?_)
    · have h := h.1 c_2
      refine g_bipush (-2 : Int32) dX10_restOf_55 rfl ?_
      exact g_iret dX10_restOf_57 rfl rfl ⟨_, rfl, h⟩
    · have h := h.2 c_2
      refine g_iload_n dX10_restOf_51 rfl ?_
      refine g_goto (tgt := 57) dX10_restOf_52 (by decide) ?_
      exact g_iret dX10_restOf_57 rfl rfl ⟨_, rfl, h⟩
  · have h := h.2 c_1
    refine g_aload_n dX10_restOf_10 rfl ?_
    refine g_iload_n dX10_restOf_11 rfl ?_
    obtain ⟨d_3, q_4, hd_5, hc_6, h⟩ := h
    refine g_cV ca_X10_416 ob_10 hc_6 hd_5 (by decide) hr0 rfl rfl (by first | exact Nat.le_of_ble_eq_true rfl | decide) dX10_restOf_12 (kI (fun v_8 μ_7 hq_9 => ?_))
    have h := h v_8 μ_7 hq_9
    refine g_if_ne (tgt := 21) dX10_restOf_15 (by decide) (fun c_10 => ?_) (fun c_10 => ?_)
    · have h := h.1 c_10
      refine g_iload_n dX10_restOf_21 rfl ?_
      refine g_iload_n dX10_restOf_22 rfl ?_
      refine g_icmp_ne (tgt := 37) dX10_restOf_23 (by decide) (fun c_11 => ?_) (fun c_11 => ?_)
      · have h := h.1 c_11
        refine g_iinc dX10_restOf_37 rfl (by decide) (fun x2_12 ex2_12 => g_sub (lv' := [(0, .ref (D.2.2 10 r0)), (1, .int x1), (2, .int x2_12), (3, .int x3)]) [1, 2, 0, 3] rfl ?_)
        have h := h x2_12 ex2_12
        exact g_sub [0, 1, 2, 3] rfl h
      · have h := h.2 c_11
        refine g_bipush (10 : Int32) dX10_restOf_26 rfl ?_
        refine g_iload_n dX10_restOf_28 rfl ?_
        refine g_iconst (5 : Int32) dX10_restOf_29 rfl ?_
        refine g_idiv dX10_restOf_30 (by decide) ?_
        refine g_imul dX10_restOf_31 ?_
        refine g_iload_n dX10_restOf_32 rfl ?_
        refine g_iconst (5 : Int32) dX10_restOf_33 rfl ?_
        refine g_irem dX10_restOf_34 (by decide) ?_
        refine g_iadd dX10_restOf_35 ?_
        exact g_iret dX10_restOf_36 rfl rfl ⟨_, rfl, h⟩
    · have h := h.2 c_10
      refine g_goto (tgt := 40) dX10_restOf_18 (by decide) ?_
      exact g_sub [0, 1, 2, 3] rfl h
set_option maxRecDepth 20000 in
set_option maxHeartbeats 4000000 in
theorem bl_X10_restOf_2 {l : Launch} {D : gD} {d : Nat} {q : Int32 → gMem → Prop} {Γ : gC} {r0 : Nat} {x1 : Int32} {x2 : Int32} {x3 : Int32} {μ : gMem} (hr0 : r0 < 1) (h : ∀ x3_1 : Int32, x3_1 = x3 + (1 : Int32) → pt_X10_restOf_1 l D d q Γ r0 x1 x2 x3_1 μ) : pt_X10_restOf_2 l D d q Γ r0 x1 x2 x3 μ := by
  unfold pt_X10_restOf_2
  refine g_iinc dX10_restOf_40 rfl (by decide) (fun x3_1 ex3_1 => g_sub (lv' := [(0, .ref (D.2.2 10 r0)), (1, .int x1), (2, .int x2), (3, .int x3_1)]) [1, 2, 3, 0] rfl ?_)
  have h := h x3_1 ex3_1
  refine g_goto (tgt := 4) dX10_restOf_43 (by decide) ?_
  exact g_sub [0, 1, 2, 3] rfl h
theorem en_X10_restOf {l : Launch} {D : gD} {d : Nat} {q : Int32 → gMem → Prop} {r0 : Nat} {x1 : Int32} {μ : gMem} (h : ∀ Γ : gC, pt_X10_restOf_0 l D d q Γ r0 x1 μ) : Ctr l D d yX10_restOf cX10_restOf 4 (some .int) [.ref (D.2.2 10 r0), .int x1] μ (pI q) :=
  Ctr_of rfl (by decide) (Nat.le_of_ble_eq_true rfl) (fun Γ => g_sub [0, 1] rfl (h Γ))
def pt_X10_areTwo_0 (l : Launch) (D : gD) (d : Nat) (q : Int32 → gMem → Prop) (Γ : gC) (r0 : Nat) (x1 : Int32) (x2 : Int32) (μ : gMem) : Prop := G l D RX10 cX10_areTwo 3 (some .boolean) d (pI q) Γ 0 [(0, .ref (D.2.2 10 r0)), (1, .int x1), (2, .int x2)] [] μ
set_option maxRecDepth 20000 in
set_option maxHeartbeats 4000000 in
theorem bl_X10_areTwo_0 {l : Launch} {D : gD} {d : Nat} {q : Int32 → gMem → Prop} {Γ : gC} {r0 : Nat} {x1 : Int32} {x2 : Int32} {μ : gMem} (hr0 : r0 < 1) (h : ∃ (d_1 : Nat) (q_2 : Int32 → gMem → Prop), d_1 < d ∧ Ctr l D d_1 yX10_isMan cX10_isMan 2 (some .boolean) [.ref (D.2.2 10 r0), .int x1] μ (pI q_2) ∧ ∀ (v_6 : Int32) (μ_5 : gMem), q_2 v_6 μ_5 → ((v_6 = 0) → q (0 : Int32) μ_5) ∧ ((¬ v_6 = 0) → ∃ (d_9 : Nat) (q_10 : Int32 → gMem → Prop), d_9 < d ∧ Ctr l D d_9 yX10_isMan cX10_isMan 2 (some .boolean) [.ref (D.2.2 10 r0), .int x2] μ_5 (pI q_10) ∧ ∀ (v_14 : Int32) (μ_13 : gMem), q_10 v_14 μ_13 → ((v_14 = 0) → q (0 : Int32) μ_13) ∧ ((¬ v_14 = 0) → ((x1 = x2) → q (0 : Int32) μ_13) ∧ ((¬ x1 = x2) → q (1 : Int32) μ_13)))) : pt_X10_areTwo_0 l D d q Γ r0 x1 x2 μ := by
  unfold pt_X10_areTwo_0
  refine g_aload_n dX10_areTwo_0 rfl ?_
  refine g_iload_n dX10_areTwo_1 rfl ?_
  obtain ⟨d_1, q_2, hd_3, hc_4, h⟩ := h
  refine g_cV ca_X10_394 ob_10 hc_4 hd_3 (by decide) hr0 rfl rfl (by first | exact Nat.le_of_ble_eq_true rfl | decide) dX10_areTwo_2 (kI (fun v_6 μ_5 hq_7 => ?_))
  have h := h v_6 μ_5 hq_7
  refine g_if_eq (tgt := 25) dX10_areTwo_5 (by decide) (fun c_8 => ?_) (fun c_8 => ?_)
  · have h := h.1 c_8
    refine g_iconst (0 : Int32) dX10_areTwo_25 rfl ?_
    exact g_iret dX10_areTwo_26 rfl rfl ⟨_, rfl, h⟩
  · have h := h.2 c_8
    refine g_aload_n dX10_areTwo_8 rfl ?_
    refine g_iload_n dX10_areTwo_9 rfl ?_
    obtain ⟨d_9, q_10, hd_11, hc_12, h⟩ := h
    refine g_cV ca_X10_394 ob_10 hc_12 hd_11 (by decide) hr0 rfl rfl (by first | exact Nat.le_of_ble_eq_true rfl | decide) dX10_areTwo_10 (kI (fun v_14 μ_13 hq_15 => ?_))
    have h := h v_14 μ_13 hq_15
    refine g_if_eq (tgt := 25) dX10_areTwo_13 (by decide) (fun c_16 => ?_) (fun c_16 => ?_)
    · have h := h.1 c_16
      refine g_iconst (0 : Int32) dX10_areTwo_25 rfl ?_
      exact g_iret dX10_areTwo_26 rfl rfl ⟨_, rfl, h⟩
    · have h := h.2 c_16
      refine g_iload_n dX10_areTwo_16 rfl ?_
      refine g_iload_n dX10_areTwo_17 rfl ?_
      refine g_icmp_eq (tgt := 25) dX10_areTwo_18 (by decide) (fun c_17 => ?_) (fun c_17 => ?_)
      · have h := h.1 c_17
        refine g_iconst (0 : Int32) dX10_areTwo_25 rfl ?_
        exact g_iret dX10_areTwo_26 rfl rfl ⟨_, rfl, h⟩
      · have h := h.2 c_17
        refine g_iconst (1 : Int32) dX10_areTwo_21 rfl ?_
        refine g_goto (tgt := 26) dX10_areTwo_22 (by decide) ?_
        exact g_iret dX10_areTwo_26 rfl rfl ⟨_, rfl, h⟩
theorem en_X10_areTwo {l : Launch} {D : gD} {d : Nat} {q : Int32 → gMem → Prop} {r0 : Nat} {x1 : Int32} {x2 : Int32} {μ : gMem} (h : ∀ Γ : gC, pt_X10_areTwo_0 l D d q Γ r0 x1 x2 μ) : Ctr l D d yX10_areTwo cX10_areTwo 3 (some .boolean) [.ref (D.2.2 10 r0), .int x1, .int x2] μ (pI q) :=
  Ctr_of rfl (by decide) (Nat.le_of_ble_eq_true rfl) (fun Γ => g_sub [0, 1, 2] rfl (h Γ))
def pt_X10_rests_0 (l : Launch) (D : gD) (d : Nat) (q : Int32 → gMem → Prop) (Γ : gC) (r0 : Nat) (x1 : Int32) (x2 : Int32) (μ : gMem) : Prop := G l D RX10 cX10_rests 3 (some .int) d (pI q) Γ 0 [(0, .ref (D.2.2 10 r0)), (1, .int x1), (2, .int x2)] [] μ
set_option maxRecDepth 20000 in
set_option maxHeartbeats 4000000 in
theorem bl_X10_rests_0 {l : Launch} {D : gD} {d : Nat} {q : Int32 → gMem → Prop} {Γ : gC} {r0 : Nat} {x1 : Int32} {x2 : Int32} {μ : gMem} (hr0 : r0 < 1) (h : ∀ μ_1 : gMem, μ_1 = gsI μ 10 r0 0 (0 : Int32) → ∃ (d_2 : Nat) (q_3 : Int32 → gMem → Prop), d_2 < d ∧ Ctr l D d_2 yX10_areTwo cX10_areTwo 3 (some .boolean) [.ref (D.2.2 10 r0), .int x1, .int x2] μ_1 (pI q_3) ∧ ∀ (v_7 : Int32) (μ_6 : gMem), q_3 v_7 μ_6 → ((¬ v_7 = 0) → ∃ (d_10 : Nat) (q_11 : gMem → Prop), d_10 < d ∧ Ctr l D d_10 yX10_layFurther cX10_layFurther 5 none [.ref (D.2.2 10 r0), .int x1, .int x2] μ_6 (pV q_11) ∧ ∀ (μ_14 : gMem), q_11 μ_14 → ∃ (d_17 : Nat) (q_18 : Int32 → gMem → Prop), d_17 < d ∧ Ctr l D d_17 yX10_restOf cX10_restOf 4 (some .int) [.ref (D.2.2 10 r0), .int (-1 : Int32)] μ_14 (pI q_18) ∧ ∀ (v_22 : Int32) (μ_21 : gMem), q_18 v_22 μ_21 → q v_22 μ_21) ∧ ((v_7 = 0) → q (-1 : Int32) μ_6)) : pt_X10_rests_0 l D d q Γ r0 x1 x2 μ := by
  unfold pt_X10_rests_0
  refine g_aload_n dX10_rests_0 rfl ?_
  refine g_iconst (0 : Int32) dX10_rests_1 rfl ?_
  refine g_pfI fi_10_145 hr0 rfl rfl dX10_rests_2 ?_
  obtain ⟨μ_1, eμ_1⟩ : ∃ z : gMem, z = gsI μ 10 r0 0 (0 : Int32) := ⟨_, rfl⟩
  have h := h μ_1 eμ_1
  refine g_mem eμ_1.symm ?_
  refine g_aload_n dX10_rests_5 rfl ?_
  refine g_iload_n dX10_rests_6 rfl ?_
  refine g_iload_n dX10_rests_7 rfl ?_
  obtain ⟨d_2, q_3, hd_4, hc_5, h⟩ := h
  refine g_cV ca_X10_419 ob_10 hc_5 hd_4 (by decide) hr0 rfl rfl (by first | exact Nat.le_of_ble_eq_true rfl | decide) dX10_rests_8 (kI (fun v_7 μ_6 hq_8 => ?_))
  have h := h v_7 μ_6 hq_8
  refine g_if_ne (tgt := 16) dX10_rests_11 (by decide) (fun c_9 => ?_) (fun c_9 => ?_)
  · have h := h.1 c_9
    refine g_aload_n dX10_rests_16 rfl ?_
    refine g_iload_n dX10_rests_17 rfl ?_
    refine g_iload_n dX10_rests_18 rfl ?_
    obtain ⟨d_10, q_11, hd_12, hc_13, h⟩ := h
    refine g_cV ca_X10_422 ob_10 hc_13 hd_12 (by decide) hr0 rfl rfl (by first | exact Nat.le_of_ble_eq_true rfl | decide) dX10_rests_19 (kV (fun μ_14 hq_16 => ?_))
    have h := h μ_14 hq_16
    refine g_aload_n dX10_rests_22 rfl ?_
    refine g_iconst (-1 : Int32) dX10_rests_23 rfl ?_
    obtain ⟨d_17, q_18, hd_19, hc_20, h⟩ := h
    refine g_cV ca_X10_425 ob_10 hc_20 hd_19 (by decide) hr0 rfl rfl (by first | exact Nat.le_of_ble_eq_true rfl | decide) dX10_rests_24 (kI (fun v_22 μ_21 hq_23 => ?_))
    have h := h v_22 μ_21 hq_23
    exact g_iret dX10_rests_27 rfl rfl ⟨_, rfl, h⟩
  · have h := h.2 c_9
    refine g_iconst (-1 : Int32) dX10_rests_14 rfl ?_
    exact g_iret dX10_rests_15 rfl rfl ⟨_, rfl, h⟩
theorem en_X10_rests {l : Launch} {D : gD} {d : Nat} {q : Int32 → gMem → Prop} {r0 : Nat} {x1 : Int32} {x2 : Int32} {μ : gMem} (h : ∀ Γ : gC, pt_X10_rests_0 l D d q Γ r0 x1 x2 μ) : Ctr l D d yX10_rests cX10_rests 3 (some .int) [.ref (D.2.2 10 r0), .int x1, .int x2] μ (pI q) :=
  Ctr_of rfl (by decide) (Nat.le_of_ble_eq_true rfl) (fun Γ => g_sub [0, 1, 2] rfl (h Γ))
def pt_X10_rest_0 (l : Launch) (D : gD) (d : Nat) (q : Int32 → gMem → Prop) (Γ : gC) (r0 : Nat) (x1 : Int32) (x2 : Int32) (x3 : Int32) (μ : gMem) : Prop := G l D RX10 cX10_rest 4 (some .int) d (pI q) Γ 0 [(0, .ref (D.2.2 10 r0)), (1, .int x1), (2, .int x2), (3, .int x3)] [] μ
set_option maxRecDepth 20000 in
set_option maxHeartbeats 4000000 in
theorem bl_X10_rest_0 {l : Launch} {D : gD} {d : Nat} {q : Int32 → gMem → Prop} {Γ : gC} {r0 : Nat} {x1 : Int32} {x2 : Int32} {x3 : Int32} {μ : gMem} (hr0 : r0 < 1) (h : ∀ μ_1 : gMem, μ_1 = gsI μ 10 r0 0 (0 : Int32) → ∃ (d_2 : Nat) (q_3 : Int32 → gMem → Prop), d_2 < d ∧ Ctr l D d_2 yX10_areTwo cX10_areTwo 3 (some .boolean) [.ref (D.2.2 10 r0), .int x1, .int x2] μ_1 (pI q_3) ∧ ∀ (v_7 : Int32) (μ_6 : gMem), q_3 v_7 μ_6 → ((v_7 = 0) → q (-1 : Int32) μ_6) ∧ ((¬ v_7 = 0) → ((0 ≤ x3) → ∃ (d_11 : Nat) (q_12 : gMem → Prop), d_11 < d ∧ Ctr l D d_11 yX10_layFurther cX10_layFurther 5 none [.ref (D.2.2 10 r0), .int x1, .int x2] μ_6 (pV q_12) ∧ ∀ (μ_15 : gMem), q_12 μ_15 → ∃ (d_18 : Nat) (q_19 : Int32 → gMem → Prop), d_18 < d ∧ Ctr l D d_18 yX10_restOf cX10_restOf 4 (some .int) [.ref (D.2.2 10 r0), .int x3] μ_15 (pI q_19) ∧ ∀ (v_23 : Int32) (μ_22 : gMem), q_19 v_23 μ_22 → q v_23 μ_22) ∧ ((¬ 0 ≤ x3) → q (-1 : Int32) μ_6))) : pt_X10_rest_0 l D d q Γ r0 x1 x2 x3 μ := by
  unfold pt_X10_rest_0
  refine g_aload_n dX10_rest_0 rfl ?_
  refine g_iconst (0 : Int32) dX10_rest_1 rfl ?_
  refine g_pfI fi_10_145 hr0 rfl rfl dX10_rest_2 ?_
  obtain ⟨μ_1, eμ_1⟩ : ∃ z : gMem, z = gsI μ 10 r0 0 (0 : Int32) := ⟨_, rfl⟩
  have h := h μ_1 eμ_1
  refine g_mem eμ_1.symm ?_
  refine g_aload_n dX10_rest_5 rfl ?_
  refine g_iload_n dX10_rest_6 rfl ?_
  refine g_iload_n dX10_rest_7 rfl ?_
  obtain ⟨d_2, q_3, hd_4, hc_5, h⟩ := h
  refine g_cV ca_X10_419 ob_10 hc_5 hd_4 (by decide) hr0 rfl rfl (by first | exact Nat.le_of_ble_eq_true rfl | decide) dX10_rest_8 (kI (fun v_7 μ_6 hq_8 => ?_))
  have h := h v_7 μ_6 hq_8
  refine g_if_eq (tgt := 18) dX10_rest_11 (by decide) (fun c_9 => ?_) (fun c_9 => ?_)
  · have h := h.1 c_9
    refine g_iconst (-1 : Int32) dX10_rest_18 rfl ?_
    exact g_iret dX10_rest_19 rfl rfl ⟨_, rfl, h⟩
  · have h := h.2 c_9
    refine g_iload_n dX10_rest_14 rfl ?_
    refine g_if_ge (tgt := 20) dX10_rest_15 (by decide) (fun c_10 => ?_) (fun c_10 => ?_)
    · have h := h.1 c_10
      refine g_aload_n dX10_rest_20 rfl ?_
      refine g_iload_n dX10_rest_21 rfl ?_
      refine g_iload_n dX10_rest_22 rfl ?_
      obtain ⟨d_11, q_12, hd_13, hc_14, h⟩ := h
      refine g_cV ca_X10_422 ob_10 hc_14 hd_13 (by decide) hr0 rfl rfl (by first | exact Nat.le_of_ble_eq_true rfl | decide) dX10_rest_23 (kV (fun μ_15 hq_17 => ?_))
      have h := h μ_15 hq_17
      refine g_aload_n dX10_rest_26 rfl ?_
      refine g_iload_n dX10_rest_27 rfl ?_
      obtain ⟨d_18, q_19, hd_20, hc_21, h⟩ := h
      refine g_cV ca_X10_425 ob_10 hc_21 hd_20 (by decide) hr0 rfl rfl (by first | exact Nat.le_of_ble_eq_true rfl | decide) dX10_rest_28 (kI (fun v_23 μ_22 hq_24 => ?_))
      have h := h v_23 μ_22 hq_24
      exact g_iret dX10_rest_31 rfl rfl ⟨_, rfl, h⟩
    · have h := h.2 c_10
      refine g_iconst (-1 : Int32) dX10_rest_18 rfl ?_
      exact g_iret dX10_rest_19 rfl rfl ⟨_, rfl, h⟩
theorem en_X10_rest {l : Launch} {D : gD} {d : Nat} {q : Int32 → gMem → Prop} {r0 : Nat} {x1 : Int32} {x2 : Int32} {x3 : Int32} {μ : gMem} (h : ∀ Γ : gC, pt_X10_rest_0 l D d q Γ r0 x1 x2 x3 μ) : Ctr l D d yX10_rest cX10_rest 4 (some .int) [.ref (D.2.2 10 r0), .int x1, .int x2, .int x3] μ (pI q) :=
  Ctr_of rfl (by decide) (Nat.le_of_ble_eq_true rfl) (fun Γ => g_sub [0, 1, 2, 3] rfl (h Γ))
def pt_X10_common_0 (l : Launch) (D : gD) (d : Nat) (q : Int32 → gMem → Prop) (Γ : gC) (x0 : Int32) (x1 : Int32) (μ : gMem) : Prop := G l D RX10 cX10_common 5 (some .int) d (pI q) Γ 0 [(0, .int x0), (1, .int x1)] [] μ
def pt_X10_common_1 (l : Launch) (D : gD) (d : Nat) (q : Int32 → gMem → Prop) (Γ : gC) (x2 : Int32) (x3 : Int32) (μ : gMem) : Prop := G l D RX10 cX10_common 5 (some .int) d (pI q) Γ 4 [(2, .int x2), (3, .int x3)] [] μ
set_option maxRecDepth 20000 in
set_option maxHeartbeats 4000000 in
theorem bl_X10_common_0 {l : Launch} {D : gD} {d : Nat} {q : Int32 → gMem → Prop} {Γ : gC} {x0 : Int32} {x1 : Int32} {μ : gMem}  (h : ∀ x2_1 : Int32, x2_1 = x0 → ∀ x3_2 : Int32, x3_2 = x1 → pt_X10_common_1 l D d q Γ x2_1 x3_2 μ) : pt_X10_common_0 l D d q Γ x0 x1 μ := by
  unfold pt_X10_common_0
  refine g_iload_n dX10_common_0 rfl ?_
  refine g_istore_n dX10_common_1 (by decide) (fun x2_1 ex2_1 => g_sub (lv' := [(1, .int x1), (2, .int x2_1)]) [2, 0] rfl ?_)
  have h := h x2_1 ex2_1
  refine g_iload_n dX10_common_2 rfl ?_
  refine g_istore_n dX10_common_3 (by decide) (fun x3_2 ex3_2 => g_sub (lv' := [(2, .int x2_1), (3, .int x3_2)]) [2, 0] rfl ?_)
  have h := h x3_2 ex3_2
  exact g_sub [0, 1] rfl h
set_option maxRecDepth 20000 in
set_option maxHeartbeats 4000000 in
theorem bl_X10_common_1 {l : Launch} {D : gD} {d : Nat} {q : Int32 → gMem → Prop} {Γ : gC} {x2 : Int32} {x3 : Int32} {μ : gMem}  (h : ((x3 = 0) → q x2 μ) ∧ ((¬ x3 = 0) → (¬ x3 = 0) ∧ (∀ x4_3 : Int32, x4_3 = x2 - x2 / x3 * x3 → ∀ x2_4 : Int32, x2_4 = x3 → ∀ x3_5 : Int32, x3_5 = x4_3 → pt_X10_common_1 l D d q Γ x2_4 x3_5 μ))) : pt_X10_common_1 l D d q Γ x2 x3 μ := by
  unfold pt_X10_common_1
  refine g_iload_n dX10_common_4 rfl ?_
  refine g_if_eq (tgt := 21) dX10_common_5 (by decide) (fun c_1 => ?_) (fun c_1 => ?_)
  · have h := h.1 c_1
    refine g_iload_n dX10_common_21 rfl ?_
    exact g_iret dX10_common_22 rfl rfl ⟨_, rfl, h⟩
  · have h := h.2 c_1
    refine g_iload_n dX10_common_8 rfl ?_
    refine g_iload_n dX10_common_9 rfl ?_
    obtain ⟨nz_2, h⟩ := h
    refine g_irem dX10_common_10 nz_2 ?_
    refine g_istore dX10_common_11 (by decide) (fun x4_3 ex4_3 => g_sub (lv' := [(3, .int x3), (4, .int x4_3)]) [2, 0] rfl ?_)
    have h := h x4_3 ex4_3
    refine g_iload_n dX10_common_13 rfl ?_
    refine g_istore_n dX10_common_14 (by decide) (fun x2_4 ex2_4 => g_sub (lv' := [(2, .int x2_4), (4, .int x4_3)]) [0, 2] rfl ?_)
    have h := h x2_4 ex2_4
    refine g_iload dX10_common_15 rfl ?_
    refine g_istore_n dX10_common_17 (by decide) (fun x3_5 ex3_5 => g_sub (lv' := [(2, .int x2_4), (3, .int x3_5)]) [1, 0] rfl ?_)
    have h := h x3_5 ex3_5
    refine g_goto (tgt := 4) dX10_common_18 (by decide) ?_
    exact g_sub [0, 1] rfl h
theorem en_X10_common {l : Launch} {D : gD} {d : Nat} {q : Int32 → gMem → Prop} {x0 : Int32} {x1 : Int32} {μ : gMem} (h : ∀ Γ : gC, pt_X10_common_0 l D d q Γ x0 x1 μ) : Ctr l D d yX10_common cX10_common 5 (some .int) [.int x0, .int x1] μ (pI q) :=
  Ctr_of rfl (by decide) (Nat.le_of_ble_eq_true rfl) (fun Γ => g_sub [0, 1] rfl (h Γ))
def pt_X10_falseOnes_0 (l : Launch) (D : gD) (d : Nat) (q : Int32 → gMem → Prop) (Γ : gC) (r0 : Nat) (x1 : Int32) (x2 : Int32) (μ : gMem) : Prop := G l D RX10 cX10_falseOnes 7 (some .int) d (pI q) Γ 0 [(0, .ref (D.2.2 10 r0)), (1, .int x1), (2, .int x2)] [] μ
def pt_X10_falseOnes_1 (l : Launch) (D : gD) (d : Nat) (q : Int32 → gMem → Prop) (Γ : gC) (r0 : Nat) (x1 : Int32) (x2 : Int32) (x3 : Int32) (x4 : Int32) (x5 : Int32) (μ : gMem) : Prop := G l D RX10 cX10_falseOnes 7 (some .int) d (pI q) Γ 32 [(0, .ref (D.2.2 10 r0)), (1, .int x1), (2, .int x2), (3, .int x3), (4, .int x4), (5, .int x5)] [] μ
set_option maxRecDepth 20000 in
set_option maxHeartbeats 4000000 in
theorem bl_X10_falseOnes_0 {l : Launch} {D : gD} {d : Nat} {q : Int32 → gMem → Prop} {Γ : gC} {r0 : Nat} {x1 : Int32} {x2 : Int32} {μ : gMem} (hr0 : r0 < 1) (h : ∀ μ_1 : gMem, μ_1 = gsI μ 10 r0 0 (0 : Int32) → ∃ (d_2 : Nat) (q_3 : Int32 → gMem → Prop), d_2 < d ∧ Ctr l D d_2 yX10_isMan cX10_isMan 2 (some .boolean) [.ref (D.2.2 10 r0), .int x1] μ_1 (pI q_3) ∧ ∀ (v_7 : Int32) (μ_6 : gMem), q_3 v_7 μ_6 → ((v_7 = 0) → q (-1 : Int32) μ_6) ∧ ((¬ v_7 = 0) → ((x2 < 0) → q (-1 : Int32) μ_6) ∧ ((¬ x2 < 0) → ((x2 ≤ (1 : Int32)) → ∀ x3_12 : Int32, x3_12 = (0 : Int32) → ∀ x4_13 : Int32, x4_13 = (0 : Int32) → ∀ x5_14 : Int32, x5_14 = (0 : Int32) → pt_X10_falseOnes_1 l D d q Γ r0 x1 x2 x3_12 x4_13 x5_14 μ_6) ∧ ((¬ x2 ≤ (1 : Int32)) → q (-1 : Int32) μ_6)))) : pt_X10_falseOnes_0 l D d q Γ r0 x1 x2 μ := by
  unfold pt_X10_falseOnes_0
  refine g_aload_n dX10_falseOnes_0 rfl ?_
  refine g_iconst (0 : Int32) dX10_falseOnes_1 rfl ?_
  refine g_pfI fi_10_145 hr0 rfl rfl dX10_falseOnes_2 ?_
  obtain ⟨μ_1, eμ_1⟩ : ∃ z : gMem, z = gsI μ 10 r0 0 (0 : Int32) := ⟨_, rfl⟩
  have h := h μ_1 eμ_1
  refine g_mem eμ_1.symm ?_
  refine g_aload_n dX10_falseOnes_5 rfl ?_
  refine g_iload_n dX10_falseOnes_6 rfl ?_
  obtain ⟨d_2, q_3, hd_4, hc_5, h⟩ := h
  refine g_cV ca_X10_394 ob_10 hc_5 hd_4 (by decide) hr0 rfl rfl (by first | exact Nat.le_of_ble_eq_true rfl | decide) dX10_falseOnes_7 (kI (fun v_7 μ_6 hq_8 => ?_))
  have h := h v_7 μ_6 hq_8
  refine g_if_eq (tgt := 22) dX10_falseOnes_10 (by decide) (fun c_9 => ?_) (fun c_9 => ?_)
  · have h := h.1 c_9
    refine g_iconst (-1 : Int32) dX10_falseOnes_22 rfl ?_
    exact g_iret dX10_falseOnes_23 rfl rfl ⟨_, rfl, h⟩
  · have h := h.2 c_9
    refine g_iload_n dX10_falseOnes_13 rfl ?_
    refine g_if_lt (tgt := 22) dX10_falseOnes_14 (by decide) (fun c_10 => ?_) (fun c_10 => ?_)
    · have h := h.1 c_10
      refine g_iconst (-1 : Int32) dX10_falseOnes_22 rfl ?_
      exact g_iret dX10_falseOnes_23 rfl rfl ⟨_, rfl, h⟩
    · have h := h.2 c_10
      refine g_iload_n dX10_falseOnes_17 rfl ?_
      refine g_iconst (1 : Int32) dX10_falseOnes_18 rfl ?_
      refine g_icmp_le (tgt := 24) dX10_falseOnes_19 (by decide) (fun c_11 => ?_) (fun c_11 => ?_)
      · have h := h.1 c_11
        refine g_iconst (0 : Int32) dX10_falseOnes_24 rfl ?_
        refine g_istore_n dX10_falseOnes_25 (by decide) (fun x3_12 ex3_12 => g_sub (lv' := [(0, .ref (D.2.2 10 r0)), (1, .int x1), (2, .int x2), (3, .int x3_12)]) [1, 2, 3, 0] rfl ?_)
        have h := h x3_12 ex3_12
        refine g_iconst (0 : Int32) dX10_falseOnes_26 rfl ?_
        refine g_istore dX10_falseOnes_27 (by decide) (fun x4_13 ex4_13 => g_sub (lv' := [(0, .ref (D.2.2 10 r0)), (1, .int x1), (2, .int x2), (3, .int x3_12), (4, .int x4_13)]) [1, 2, 3, 4, 0] rfl ?_)
        have h := h x4_13 ex4_13
        refine g_iconst (0 : Int32) dX10_falseOnes_29 rfl ?_
        refine g_istore dX10_falseOnes_30 (by decide) (fun x5_14 ex5_14 => g_sub (lv' := [(0, .ref (D.2.2 10 r0)), (1, .int x1), (2, .int x2), (3, .int x3_12), (4, .int x4_13), (5, .int x5_14)]) [1, 2, 3, 4, 5, 0] rfl ?_)
        have h := h x5_14 ex5_14
        exact g_sub [0, 1, 2, 3, 4, 5] rfl h
      · have h := h.2 c_11
        refine g_iconst (-1 : Int32) dX10_falseOnes_22 rfl ?_
        exact g_iret dX10_falseOnes_23 rfl rfl ⟨_, rfl, h⟩
set_option maxRecDepth 20000 in
set_option maxHeartbeats 4000000 in
theorem bl_X10_falseOnes_1 {l : Launch} {D : gD} {d : Nat} {q : Int32 → gMem → Prop} {Γ : gC} {r0 : Nat} {x1 : Int32} {x2 : Int32} {x3 : Int32} {x4 : Int32} {x5 : Int32} {μ : gMem} (hr0 : r0 < 1) (h : ∃ j_1 : Nat, j_1 < 20 ∧ (1 : Int32) = nI j_1 ∧ ((((μ.1 707 r0 j_1) ≤ x5) → ((¬ x4 = 0) → ∃ (d_4 : Nat) (q_5 : Int32 → gMem → Prop), d_4 < d ∧ Ctr l D d_4 yX10_common cX10_common 5 (some .int) [.int x3, .int x4] μ (pI q_5) ∧ ∀ (v_9 : Int32) (μ_8 : gMem), q_5 v_9 μ_8 → ∀ x5_11 : Int32, x5_11 = v_9 → ((¬ x2 = 0) → (¬ x5_11 = 0) ∧ (q (x4 / x5_11) μ_8)) ∧ ((x2 = 0) → (¬ x5_11 = 0) ∧ (q (x3 / x5_11) μ_8))) ∧ ((x4 = 0) → q x2 μ)) ∧ ((¬ (μ.1 707 r0 j_1) ≤ x5) → ∃ j_15 : Nat, j_15 < 690 ∧ ((6 : Int32) * x1) + x5 = nI j_15 ∧ (∀ x6_16 : Int32, x6_16 = μ.1 751 r0 j_15 → ∃ j_17 : Nat, j_17 < 12 ∧ x5 = nI j_17 ∧ (∃ j_18 : Nat, j_18 < 12 ∧ x5 = nI j_18 ∧ ((0 < d) ∧ (∀ x3_20 : Int32, x3_20 = x3 + (x6_16 * (imax (0 : Int32) ((μ.1 714 r0 j_17) - (μ.1 713 r0 j_18)))) → ∃ j_21 : Nat, j_21 < 12 ∧ x5 = nI j_21 ∧ (∀ x4_22 : Int32, x4_22 = x4 + (x6_16 * (μ.1 714 r0 j_21)) → ∀ x5_23 : Int32, x5_23 = x5 + (1 : Int32) → pt_X10_falseOnes_1 l D d q Γ r0 x1 x2 x3_20 x4_22 x5_23 μ)))))))) : pt_X10_falseOnes_1 l D d q Γ r0 x1 x2 x3 x4 x5 μ := by
  unfold pt_X10_falseOnes_1
  refine g_iload dX10_falseOnes_32 rfl ?_
  refine g_aload_n dX10_falseOnes_34 rfl ?_
  refine g_gfR fl_10_13 rfl hr0 dX10_falseOnes_35 ?_
  refine g_iconst (1 : Int32) dX10_falseOnes_38 rfl ?_
  obtain ⟨j_1, hj_1, ej_1, h⟩ := h
  refine g_iald j_1 hr0 rfl hj_1 (by decide) ej_1 dX10_falseOnes_39 ?_
  refine g_icmp_ge (tgt := 103) dX10_falseOnes_40 (by decide) (fun c_2 => ?_) (fun c_2 => ?_)
  · have h := h.1 c_2
    refine g_iload dX10_falseOnes_103 rfl ?_
    refine g_if_ne (tgt := 110) dX10_falseOnes_105 (by decide) (fun c_3 => ?_) (fun c_3 => ?_)
    · have h := h.1 c_3
      refine g_iload_n dX10_falseOnes_110 rfl ?_
      refine g_iload dX10_falseOnes_111 rfl ?_
      obtain ⟨d_4, q_5, hd_6, hc_7, h⟩ := h
      refine g_callS ca_X10_428 hc_7 hd_6 (by decide) rfl rfl (by first | exact Nat.le_of_ble_eq_true rfl | decide) dX10_falseOnes_113 (kI (fun v_9 μ_8 hq_10 => ?_))
      have h := h v_9 μ_8 hq_10
      refine g_istore dX10_falseOnes_116 (by decide) (fun x5_11 ex5_11 => g_sub (lv' := [(2, .int x2), (3, .int x3), (4, .int x4), (5, .int x5_11)]) [3, 4, 5, 0] rfl ?_)
      have h := h x5_11 ex5_11
      refine g_iload_n dX10_falseOnes_118 rfl ?_
      refine g_if_ne (tgt := 129) dX10_falseOnes_119 (by decide) (fun c_12 => ?_) (fun c_12 => ?_)
      · have h := h.1 c_12
        refine g_iload dX10_falseOnes_129 rfl ?_
        refine g_iload dX10_falseOnes_131 rfl ?_
        obtain ⟨nz_13, h⟩ := h
        refine g_idiv dX10_falseOnes_133 nz_13 ?_
        exact g_iret dX10_falseOnes_134 rfl rfl ⟨_, rfl, h⟩
      · have h := h.2 c_12
        refine g_iload_n dX10_falseOnes_122 rfl ?_
        refine g_iload dX10_falseOnes_123 rfl ?_
        obtain ⟨nz_14, h⟩ := h
        refine g_idiv dX10_falseOnes_125 nz_14 ?_
        refine g_goto (tgt := 134) dX10_falseOnes_126 (by decide) ?_
        exact g_iret dX10_falseOnes_134 rfl rfl ⟨_, rfl, h⟩
    · have h := h.2 c_3
      refine g_iload_n dX10_falseOnes_108 rfl ?_
      exact g_iret dX10_falseOnes_109 rfl rfl ⟨_, rfl, h⟩
  · have h := h.2 c_2
    refine g_aload_n dX10_falseOnes_43 rfl ?_
    refine g_gfR fl_10_108 rfl hr0 dX10_falseOnes_44 ?_
    refine g_bipush (6 : Int32) dX10_falseOnes_47 rfl ?_
    refine g_iload_n dX10_falseOnes_49 rfl ?_
    refine g_imul dX10_falseOnes_50 ?_
    refine g_iload dX10_falseOnes_51 rfl ?_
    refine g_iadd dX10_falseOnes_53 ?_
    obtain ⟨j_15, hj_15, ej_15, h⟩ := h
    refine g_iald j_15 hr0 rfl hj_15 (by decide) ej_15 dX10_falseOnes_54 ?_
    refine g_istore dX10_falseOnes_55 (by decide) (fun x6_16 ex6_16 => g_sub (lv' := [(0, .ref (D.2.2 10 r0)), (1, .int x1), (2, .int x2), (3, .int x3), (4, .int x4), (5, .int x5), (6, .int x6_16)]) [1, 2, 3, 4, 5, 6, 0] rfl ?_)
    have h := h x6_16 ex6_16
    refine g_iload_n dX10_falseOnes_57 rfl ?_
    refine g_iload dX10_falseOnes_58 rfl ?_
    refine g_iconst (0 : Int32) dX10_falseOnes_60 rfl ?_
    refine g_aload_n dX10_falseOnes_61 rfl ?_
    refine g_gfR fl_10_34 rfl hr0 dX10_falseOnes_62 ?_
    refine g_iload dX10_falseOnes_65 rfl ?_
    obtain ⟨j_17, hj_17, ej_17, h⟩ := h
    refine g_iald j_17 hr0 rfl hj_17 (by decide) ej_17 dX10_falseOnes_67 ?_
    refine g_aload_n dX10_falseOnes_68 rfl ?_
    refine g_gfR fl_10_31 rfl hr0 dX10_falseOnes_69 ?_
    refine g_iload dX10_falseOnes_72 rfl ?_
    obtain ⟨j_18, hj_18, ej_18, h⟩ := h
    refine g_iald j_18 hr0 rfl hj_18 (by decide) ej_18 dX10_falseOnes_74 ?_
    refine g_isub dX10_falseOnes_75 ?_
    obtain ⟨hd_19, h⟩ := h
    refine g_mmax hd_19 mk_X10_337 (by first | exact Nat.le_of_ble_eq_true rfl | decide) dX10_falseOnes_76 ?_
    refine g_imul dX10_falseOnes_79 ?_
    refine g_iadd dX10_falseOnes_80 ?_
    refine g_istore_n dX10_falseOnes_81 (by decide) (fun x3_20 ex3_20 => g_sub (lv' := [(0, .ref (D.2.2 10 r0)), (1, .int x1), (2, .int x2), (3, .int x3_20), (4, .int x4), (5, .int x5), (6, .int x6_16)]) [1, 2, 3, 0, 4, 5, 6] rfl ?_)
    have h := h x3_20 ex3_20
    refine g_iload dX10_falseOnes_82 rfl ?_
    refine g_iload dX10_falseOnes_84 rfl ?_
    refine g_aload_n dX10_falseOnes_86 rfl ?_
    refine g_gfR fl_10_34 rfl hr0 dX10_falseOnes_87 ?_
    refine g_iload dX10_falseOnes_90 rfl ?_
    obtain ⟨j_21, hj_21, ej_21, h⟩ := h
    refine g_iald j_21 hr0 rfl hj_21 (by decide) ej_21 dX10_falseOnes_92 ?_
    refine g_imul dX10_falseOnes_93 ?_
    refine g_iadd dX10_falseOnes_94 ?_
    refine g_istore dX10_falseOnes_95 (by decide) (fun x4_22 ex4_22 => g_sub (lv' := [(0, .ref (D.2.2 10 r0)), (1, .int x1), (2, .int x2), (3, .int x3_20), (4, .int x4_22), (5, .int x5)]) [1, 2, 3, 4, 0, 5] rfl ?_)
    have h := h x4_22 ex4_22
    refine g_iinc dX10_falseOnes_97 rfl (by decide) (fun x5_23 ex5_23 => g_sub (lv' := [(0, .ref (D.2.2 10 r0)), (1, .int x1), (2, .int x2), (3, .int x3_20), (4, .int x4_22), (5, .int x5_23)]) [1, 2, 3, 4, 5, 0] rfl ?_)
    have h := h x5_23 ex5_23
    refine g_goto (tgt := 32) dX10_falseOnes_100 (by decide) ?_
    exact g_sub [0, 1, 2, 3, 4, 5] rfl h
theorem en_X10_falseOnes {l : Launch} {D : gD} {d : Nat} {q : Int32 → gMem → Prop} {r0 : Nat} {x1 : Int32} {x2 : Int32} {μ : gMem} (h : ∀ Γ : gC, pt_X10_falseOnes_0 l D d q Γ r0 x1 x2 μ) : Ctr l D d yX10_falseOnes cX10_falseOnes 7 (some .int) [.ref (D.2.2 10 r0), .int x1, .int x2] μ (pI q) :=
  Ctr_of rfl (by decide) (Nat.le_of_ble_eq_true rfl) (fun Γ => g_sub [0, 1, 2] rfl (h Γ))
def pt_X10_habit_0 (l : Launch) (D : gD) (d : Nat) (q : Int32 → gMem → Prop) (Γ : gC) (r0 : Nat) (x1 : Int32) (μ : gMem) : Prop := G l D RX10 cX10_habit 3 (some .int) d (pI q) Γ 0 [(0, .ref (D.2.2 10 r0)), (1, .int x1)] [] μ
def pt_X10_habit_1 (l : Launch) (D : gD) (d : Nat) (q : Int32 → gMem → Prop) (Γ : gC) (r0 : Nat) (x1 : Int32) (x2 : Int32) (μ : gMem) : Prop := G l D RX10 cX10_habit 3 (some .int) d (pI q) Γ 23 [(0, .ref (D.2.2 10 r0)), (1, .int x1), (2, .int x2)] [] μ
set_option maxRecDepth 20000 in
set_option maxHeartbeats 4000000 in
theorem bl_X10_habit_0 {l : Launch} {D : gD} {d : Nat} {q : Int32 → gMem → Prop} {Γ : gC} {r0 : Nat} {x1 : Int32} {μ : gMem} (hr0 : r0 < 1) (h : ∀ μ_1 : gMem, μ_1 = gsI μ 10 r0 0 (0 : Int32) → ∃ (d_2 : Nat) (q_3 : Int32 → gMem → Prop), d_2 < d ∧ Ctr l D d_2 yX10_isMan cX10_isMan 2 (some .boolean) [.ref (D.2.2 10 r0), .int x1] μ_1 (pI q_3) ∧ ∀ (v_7 : Int32) (μ_6 : gMem), q_3 v_7 μ_6 → ((¬ v_7 = 0) → ∃ (d_10 : Nat) (q_11 : gMem → Prop), d_10 < d ∧ Ctr l D d_10 yX10_copies cX10_copies 6 none [.ref (D.2.2 10 r0), .int (1 : Int32), .int (0 : Int32)] μ_6 (pV q_11) ∧ ∀ (μ_14 : gMem), q_11 μ_14 → ∀ x2_17 : Int32, x2_17 = (0 : Int32) → pt_X10_habit_1 l D d q Γ r0 x1 x2_17 μ_14) ∧ ((v_7 = 0) → q (-1 : Int32) μ_6)) : pt_X10_habit_0 l D d q Γ r0 x1 μ := by
  unfold pt_X10_habit_0
  refine g_aload_n dX10_habit_0 rfl ?_
  refine g_iconst (0 : Int32) dX10_habit_1 rfl ?_
  refine g_pfI fi_10_145 hr0 rfl rfl dX10_habit_2 ?_
  obtain ⟨μ_1, eμ_1⟩ : ∃ z : gMem, z = gsI μ 10 r0 0 (0 : Int32) := ⟨_, rfl⟩
  have h := h μ_1 eμ_1
  refine g_mem eμ_1.symm ?_
  refine g_aload_n dX10_habit_5 rfl ?_
  refine g_iload_n dX10_habit_6 rfl ?_
  obtain ⟨d_2, q_3, hd_4, hc_5, h⟩ := h
  refine g_cV ca_X10_394 ob_10 hc_5 hd_4 (by decide) hr0 rfl rfl (by first | exact Nat.le_of_ble_eq_true rfl | decide) dX10_habit_7 (kI (fun v_7 μ_6 hq_8 => ?_))
  have h := h v_7 μ_6 hq_8
  refine g_if_ne (tgt := 15) dX10_habit_10 (by decide) (fun c_9 => ?_) (fun c_9 => ?_)
  · have h := h.1 c_9
    refine g_aload_n dX10_habit_15 rfl ?_
    refine g_iconst (1 : Int32) dX10_habit_16 rfl ?_
    refine g_iconst (0 : Int32) dX10_habit_17 rfl ?_
    obtain ⟨d_10, q_11, hd_12, hc_13, h⟩ := h
    refine g_cV ca_X10_387 ob_10 hc_13 hd_12 (by decide) hr0 rfl rfl (by first | exact Nat.le_of_ble_eq_true rfl | decide) dX10_habit_18 (kV (fun μ_14 hq_16 => ?_))
    have h := h μ_14 hq_16
    refine g_iconst (0 : Int32) dX10_habit_21 rfl ?_
    refine g_istore_n dX10_habit_22 (by decide) (fun x2_17 ex2_17 => g_sub (lv' := [(0, .ref (D.2.2 10 r0)), (1, .int x1), (2, .int x2_17)]) [1, 2, 0] rfl ?_)
    have h := h x2_17 ex2_17
    exact g_sub [0, 1, 2] rfl h
  · have h := h.2 c_9
    refine g_iconst (-1 : Int32) dX10_habit_13 rfl ?_
    exact g_iret dX10_habit_14 rfl rfl ⟨_, rfl, h⟩
set_option maxRecDepth 20000 in
set_option maxHeartbeats 4000000 in
theorem bl_X10_habit_1 {l : Launch} {D : gD} {d : Nat} {q : Int32 → gMem → Prop} {Γ : gC} {r0 : Nat} {x1 : Int32} {x2 : Int32} {μ : gMem} (hr0 : r0 < 1) (h : (((99 : Int32) < x2) → q (-2 : Int32) μ) ∧ ((¬ (99 : Int32) < x2) → ∃ j_2 : Nat, j_2 < 115 ∧ (5 : Int32) + x1 = nI j_2 ∧ (∃ j_3 : Nat, j_3 < 115 ∧ x1 = nI j_3 ∧ ((((μ.1 741 r0 j_2) < (μ.1 740 r0 j_3)) → ∃ (d_5 : Nat) (q_6 : gMem → Prop), d_5 < d ∧ Ctr l D d_5 yX10_passes cX10_passes 6 none [.ref (D.2.2 10 r0), .int (1 : Int32), .int (0 : Int32)] μ (pV q_6) ∧ ∀ (μ_9 : gMem), q_6 μ_9 → ∀ x2_12 : Int32, x2_12 = x2 + (1 : Int32) → pt_X10_habit_1 l D d q Γ r0 x1 x2_12 μ_9) ∧ ((¬ (μ.1 741 r0 j_2) < (μ.1 740 r0 j_3)) → q x2 μ))))) : pt_X10_habit_1 l D d q Γ r0 x1 x2 μ := by
  unfold pt_X10_habit_1
  refine g_iload_n dX10_habit_23 rfl ?_
  refine g_bipush (99 : Int32) dX10_habit_24 rfl ?_
  refine g_icmp_gt (tgt := 60) dX10_habit_26 (by decide) (fun c_1 => ?_) (fun c_1 => ?_)
  · have h := h.1 c_1
    refine g_bipush (-2 : Int32) dX10_habit_60 rfl ?_
    exact g_iret dX10_habit_62 rfl rfl ⟨_, rfl, h⟩
  · have h := h.2 c_1
    refine g_aload_n dX10_habit_29 rfl ?_
    refine g_gfR fl_10_78 rfl hr0 dX10_habit_30 ?_
    refine g_iconst (5 : Int32) dX10_habit_33 rfl ?_
    refine g_iload_n dX10_habit_34 rfl ?_
    refine g_iadd dX10_habit_35 ?_
    obtain ⟨j_2, hj_2, ej_2, h⟩ := h
    refine g_iald j_2 hr0 rfl hj_2 (by decide) ej_2 dX10_habit_36 ?_
    refine g_aload_n dX10_habit_37 rfl ?_
    refine g_gfR fl_10_75 rfl hr0 dX10_habit_38 ?_
    refine g_iload_n dX10_habit_41 rfl ?_
    obtain ⟨j_3, hj_3, ej_3, h⟩ := h
    refine g_iald j_3 hr0 rfl hj_3 (by decide) ej_3 dX10_habit_42 ?_
    refine g_icmp_lt (tgt := 48) dX10_habit_43 (by decide) (fun c_4 => ?_) (fun c_4 => ?_)
    · have h := h.1 c_4
      refine g_aload_n dX10_habit_48 rfl ?_
      refine g_iconst (1 : Int32) dX10_habit_49 rfl ?_
      refine g_iconst (0 : Int32) dX10_habit_50 rfl ?_
      obtain ⟨d_5, q_6, hd_7, hc_8, h⟩ := h
      refine g_cV ca_X10_390 ob_10 hc_8 hd_7 (by decide) hr0 rfl rfl (by first | exact Nat.le_of_ble_eq_true rfl | decide) dX10_habit_51 (kV (fun μ_9 hq_11 => ?_))
      have h := h μ_9 hq_11
      refine g_iinc dX10_habit_54 rfl (by decide) (fun x2_12 ex2_12 => g_sub (lv' := [(0, .ref (D.2.2 10 r0)), (1, .int x1), (2, .int x2_12)]) [1, 2, 0] rfl ?_)
      have h := h x2_12 ex2_12
      refine g_goto (tgt := 23) dX10_habit_57 (by decide) ?_
      exact g_sub [0, 1, 2] rfl h
    · have h := h.2 c_4
      refine g_iload_n dX10_habit_46 rfl ?_
      exact g_iret dX10_habit_47 rfl rfl ⟨_, rfl, h⟩
theorem en_X10_habit {l : Launch} {D : gD} {d : Nat} {q : Int32 → gMem → Prop} {r0 : Nat} {x1 : Int32} {μ : gMem} (h : ∀ Γ : gC, pt_X10_habit_0 l D d q Γ r0 x1 μ) : Ctr l D d yX10_habit cX10_habit 3 (some .int) [.ref (D.2.2 10 r0), .int x1] μ (pI q) :=
  Ctr_of rfl (by decide) (Nat.le_of_ble_eq_true rfl) (fun Γ => g_sub [0, 1] rfl (h Γ))
def pt_X10_breaks_0 (l : Launch) (D : gD) (d : Nat) (q : Int32 → gMem → Prop) (Γ : gC) (r0 : Nat) (x1 : Int32) (x2 : Int32) (μ : gMem) : Prop := G l D RX10 cX10_breaks 5 (some .int) d (pI q) Γ 0 [(0, .ref (D.2.2 10 r0)), (1, .int x1), (2, .int x2)] [] μ
def pt_X10_breaks_1 (l : Launch) (D : gD) (d : Nat) (q : Int32 → gMem → Prop) (Γ : gC) (r0 : Nat) (x1 : Int32) (x2 : Int32) (x3 : Int32) (x4 : Int32) (μ : gMem) : Prop := G l D RX10 cX10_breaks 5 (some .int) d (pI q) Γ 78 [(0, .ref (D.2.2 10 r0)), (1, .int x1), (2, .int x2), (3, .int x3), (4, .int x4)] [] μ
set_option maxRecDepth 20000 in
set_option maxHeartbeats 4000000 in
theorem bl_X10_breaks_0 {l : Launch} {D : gD} {d : Nat} {q : Int32 → gMem → Prop} {Γ : gC} {r0 : Nat} {x1 : Int32} {x2 : Int32} {μ : gMem} (hr0 : r0 < 1) (h : ∀ μ_1 : gMem, μ_1 = gsI μ 10 r0 0 (0 : Int32) → ∃ (d_2 : Nat) (q_3 : Int32 → gMem → Prop), d_2 < d ∧ Ctr l D d_2 yX10_isMan cX10_isMan 2 (some .boolean) [.ref (D.2.2 10 r0), .int x1] μ_1 (pI q_3) ∧ ∀ (v_7 : Int32) (μ_6 : gMem), q_3 v_7 μ_6 → ((v_7 = 0) → q (-1 : Int32) μ_6) ∧ ((¬ v_7 = 0) → ((x2 < (1 : Int32)) → q (-1 : Int32) μ_6) ∧ ((¬ x2 < (1 : Int32)) → ((x2 ≤ (60 : Int32)) → ∃ (d_12 : Nat) (q_13 : gMem → Prop), d_12 < d ∧ Ctr l D d_12 yX10_runs cX10_runs 3 none [.ref (D.2.2 10 r0), .int x2] μ_6 (pV q_13) ∧ ∀ (μ_16 : gMem), q_13 μ_16 → ∃ j_19 : Nat, j_19 < 115 ∧ (5 : Int32) + x1 = nI j_19 ∧ (∀ x3_20 : Int32, x3_20 = μ_16.1 745 r0 j_19 → ∃ (d_21 : Nat) (q_22 : gMem → Prop), d_21 < d ∧ Ctr l D d_21 yX10_copies cX10_copies 6 none [.ref (D.2.2 10 r0), .int (1 : Int32), .int (0 : Int32)] μ_16 (pV q_22) ∧ ∀ (μ_25 : gMem), q_22 μ_25 → ∃ j_28 : Nat, j_28 < 115 ∧ (5 : Int32) + x1 = nI j_28 ∧ (∀ μ_29 : gMem, μ_29 = gsI μ_25 747 r0 j_28 (0 : Int32) → ∃ (d_30 : Nat) (q_31 : gMem → Prop), d_30 < d ∧ Ctr l D d_30 yX10_passes cX10_passes 6 none [.ref (D.2.2 10 r0), .int (1 : Int32), .int (0 : Int32)] μ_29 (pV q_31) ∧ ∀ (μ_34 : gMem), q_31 μ_34 → ∃ j_37 : Nat, j_37 < 115 ∧ x1 = nI j_37 ∧ (∃ j_38 : Nat, j_38 < 115 ∧ (5 : Int32) + x1 = nI j_38 ∧ (∀ μ_39 : gMem, μ_39 = gsI μ_34 747 r0 j_38 (μ_34.1 747 r0 j_37) → ∀ x4_40 : Int32, x4_40 = (1 : Int32) → pt_X10_breaks_1 l D d q Γ r0 x1 x2 x3_20 x4_40 μ_39))))) ∧ ((¬ x2 ≤ (60 : Int32)) → q (-1 : Int32) μ_6)))) : pt_X10_breaks_0 l D d q Γ r0 x1 x2 μ := by
  unfold pt_X10_breaks_0
  refine g_aload_n dX10_breaks_0 rfl ?_
  refine g_iconst (0 : Int32) dX10_breaks_1 rfl ?_
  refine g_pfI fi_10_145 hr0 rfl rfl dX10_breaks_2 ?_
  obtain ⟨μ_1, eμ_1⟩ : ∃ z : gMem, z = gsI μ 10 r0 0 (0 : Int32) := ⟨_, rfl⟩
  have h := h μ_1 eμ_1
  refine g_mem eμ_1.symm ?_
  refine g_aload_n dX10_breaks_5 rfl ?_
  refine g_iload_n dX10_breaks_6 rfl ?_
  obtain ⟨d_2, q_3, hd_4, hc_5, h⟩ := h
  refine g_cV ca_X10_394 ob_10 hc_5 hd_4 (by decide) hr0 rfl rfl (by first | exact Nat.le_of_ble_eq_true rfl | decide) dX10_breaks_7 (kI (fun v_7 μ_6 hq_8 => ?_))
  have h := h v_7 μ_6 hq_8
  refine g_if_eq (tgt := 24) dX10_breaks_10 (by decide) (fun c_9 => ?_) (fun c_9 => ?_)
  · have h := h.1 c_9
    refine g_iconst (-1 : Int32) dX10_breaks_24 rfl ?_
    exact g_iret dX10_breaks_25 rfl rfl ⟨_, rfl, h⟩
  · have h := h.2 c_9
    refine g_iload_n dX10_breaks_13 rfl ?_
    refine g_iconst (1 : Int32) dX10_breaks_14 rfl ?_
    refine g_icmp_lt (tgt := 24) dX10_breaks_15 (by decide) (fun c_10 => ?_) (fun c_10 => ?_)
    · have h := h.1 c_10
      refine g_iconst (-1 : Int32) dX10_breaks_24 rfl ?_
      exact g_iret dX10_breaks_25 rfl rfl ⟨_, rfl, h⟩
    · have h := h.2 c_10
      refine g_iload_n dX10_breaks_18 rfl ?_
      refine g_bipush (60 : Int32) dX10_breaks_19 rfl ?_
      refine g_icmp_le (tgt := 26) dX10_breaks_21 (by decide) (fun c_11 => ?_) (fun c_11 => ?_)
      · have h := h.1 c_11
        refine g_aload_n dX10_breaks_26 rfl ?_
        refine g_iload_n dX10_breaks_27 rfl ?_
        obtain ⟨d_12, q_13, hd_14, hc_15, h⟩ := h
        refine g_cV ca_X10_407 ob_10 hc_15 hd_14 (by decide) hr0 rfl rfl (by first | exact Nat.le_of_ble_eq_true rfl | decide) dX10_breaks_28 (kV (fun μ_16 hq_18 => ?_))
        have h := h μ_16 hq_18
        refine g_aload_n dX10_breaks_31 rfl ?_
        refine g_gfR fl_10_90 rfl hr0 dX10_breaks_32 ?_
        refine g_iconst (5 : Int32) dX10_breaks_35 rfl ?_
        refine g_iload_n dX10_breaks_36 rfl ?_
        refine g_iadd dX10_breaks_37 ?_
        obtain ⟨j_19, hj_19, ej_19, h⟩ := h
        refine g_iald j_19 hr0 rfl hj_19 (by decide) ej_19 dX10_breaks_38 ?_
        refine g_istore_n dX10_breaks_39 (by decide) (fun x3_20 ex3_20 => g_sub (lv' := [(0, .ref (D.2.2 10 r0)), (1, .int x1), (2, .int x2), (3, .int x3_20)]) [1, 2, 3, 0] rfl ?_)
        have h := h x3_20 ex3_20
        refine g_aload_n dX10_breaks_40 rfl ?_
        refine g_iconst (1 : Int32) dX10_breaks_41 rfl ?_
        refine g_iconst (0 : Int32) dX10_breaks_42 rfl ?_
        obtain ⟨d_21, q_22, hd_23, hc_24, h⟩ := h
        refine g_cV ca_X10_387 ob_10 hc_24 hd_23 (by decide) hr0 rfl rfl (by first | exact Nat.le_of_ble_eq_true rfl | decide) dX10_breaks_43 (kV (fun μ_25 hq_27 => ?_))
        have h := h μ_25 hq_27
        refine g_aload_n dX10_breaks_46 rfl ?_
        refine g_gfR fl_10_96 rfl hr0 dX10_breaks_47 ?_
        refine g_iconst (5 : Int32) dX10_breaks_50 rfl ?_
        refine g_iload_n dX10_breaks_51 rfl ?_
        refine g_iadd dX10_breaks_52 ?_
        refine g_iconst (0 : Int32) dX10_breaks_53 rfl ?_
        obtain ⟨j_28, hj_28, ej_28, h⟩ := h
        refine g_iast j_28 hr0 rfl hj_28 (by decide) ej_28 dX10_breaks_54 ?_
        obtain ⟨μ_29, eμ_29⟩ : ∃ z : gMem, z = gsI μ_25 747 r0 j_28 (0 : Int32) := ⟨_, rfl⟩
        have h := h μ_29 eμ_29
        refine g_mem eμ_29.symm ?_
        refine g_aload_n dX10_breaks_55 rfl ?_
        refine g_iconst (1 : Int32) dX10_breaks_56 rfl ?_
        refine g_iconst (0 : Int32) dX10_breaks_57 rfl ?_
        obtain ⟨d_30, q_31, hd_32, hc_33, h⟩ := h
        refine g_cV ca_X10_390 ob_10 hc_33 hd_32 (by decide) hr0 rfl rfl (by first | exact Nat.le_of_ble_eq_true rfl | decide) dX10_breaks_58 (kV (fun μ_34 hq_36 => ?_))
        have h := h μ_34 hq_36
        refine g_aload_n dX10_breaks_61 rfl ?_
        refine g_gfR fl_10_96 rfl hr0 dX10_breaks_62 ?_
        refine g_iconst (5 : Int32) dX10_breaks_65 rfl ?_
        refine g_iload_n dX10_breaks_66 rfl ?_
        refine g_iadd dX10_breaks_67 ?_
        refine g_aload_n dX10_breaks_68 rfl ?_
        refine g_gfR fl_10_96 rfl hr0 dX10_breaks_69 ?_
        refine g_iload_n dX10_breaks_72 rfl ?_
        obtain ⟨j_37, hj_37, ej_37, h⟩ := h
        refine g_iald j_37 hr0 rfl hj_37 (by decide) ej_37 dX10_breaks_73 ?_
        obtain ⟨j_38, hj_38, ej_38, h⟩ := h
        refine g_iast j_38 hr0 rfl hj_38 (by decide) ej_38 dX10_breaks_74 ?_
        obtain ⟨μ_39, eμ_39⟩ : ∃ z : gMem, z = gsI μ_34 747 r0 j_38 (μ_34.1 747 r0 j_37) := ⟨_, rfl⟩
        have h := h μ_39 eμ_39
        refine g_mem eμ_39.symm ?_
        refine g_iconst (1 : Int32) dX10_breaks_75 rfl ?_
        refine g_istore dX10_breaks_76 (by decide) (fun x4_40 ex4_40 => g_sub (lv' := [(0, .ref (D.2.2 10 r0)), (1, .int x1), (2, .int x2), (3, .int x3_20), (4, .int x4_40)]) [1, 2, 3, 4, 0] rfl ?_)
        have h := h x4_40 ex4_40
        exact g_sub [0, 1, 2, 3, 4] rfl h
      · have h := h.2 c_11
        refine g_iconst (-1 : Int32) dX10_breaks_24 rfl ?_
        exact g_iret dX10_breaks_25 rfl rfl ⟨_, rfl, h⟩
set_option maxRecDepth 20000 in
set_option maxHeartbeats 4000000 in
theorem bl_X10_breaks_1 {l : Launch} {D : gD} {d : Nat} {q : Int32 → gMem → Prop} {Γ : gC} {r0 : Nat} {x1 : Int32} {x2 : Int32} {x3 : Int32} {x4 : Int32} {μ : gMem} (hr0 : r0 < 1) (h : ((x2 ≤ x4) → ∃ j_2 : Nat, j_2 < 115 ∧ (5 : Int32) + x1 = nI j_2 ∧ ((0 < d) ∧ (q (imax (0 : Int32) (x3 - (μ.1 745 r0 j_2))) μ))) ∧ ((¬ x2 ≤ x4) → ∃ (d_4 : Nat) (q_5 : gMem → Prop), d_4 < d ∧ Ctr l D d_4 yX10_passes cX10_passes 6 none [.ref (D.2.2 10 r0), .int (1 : Int32), .int (0 : Int32)] μ (pV q_5) ∧ ∀ (μ_8 : gMem), q_5 μ_8 → ∀ x4_11 : Int32, x4_11 = x4 + (1 : Int32) → pt_X10_breaks_1 l D d q Γ r0 x1 x2 x3 x4_11 μ_8)) : pt_X10_breaks_1 l D d q Γ r0 x1 x2 x3 x4 μ := by
  unfold pt_X10_breaks_1
  refine g_iload dX10_breaks_78 rfl ?_
  refine g_iload_n dX10_breaks_80 rfl ?_
  refine g_icmp_ge (tgt := 96) dX10_breaks_81 (by decide) (fun c_1 => ?_) (fun c_1 => ?_)
  · have h := h.1 c_1
    refine g_iconst (0 : Int32) dX10_breaks_96 rfl ?_
    refine g_iload_n dX10_breaks_97 rfl ?_
    refine g_aload_n dX10_breaks_98 rfl ?_
    refine g_gfR fl_10_90 rfl hr0 dX10_breaks_99 ?_
    refine g_iconst (5 : Int32) dX10_breaks_102 rfl ?_
    refine g_iload_n dX10_breaks_103 rfl ?_
    refine g_iadd dX10_breaks_104 ?_
    obtain ⟨j_2, hj_2, ej_2, h⟩ := h
    refine g_iald j_2 hr0 rfl hj_2 (by decide) ej_2 dX10_breaks_105 ?_
    refine g_isub dX10_breaks_106 ?_
    obtain ⟨hd_3, h⟩ := h
    refine g_mmax hd_3 mk_X10_337 (by first | exact Nat.le_of_ble_eq_true rfl | decide) dX10_breaks_107 ?_
    exact g_iret dX10_breaks_110 rfl rfl ⟨_, rfl, h⟩
  · have h := h.2 c_1
    refine g_aload_n dX10_breaks_84 rfl ?_
    refine g_iconst (1 : Int32) dX10_breaks_85 rfl ?_
    refine g_iconst (0 : Int32) dX10_breaks_86 rfl ?_
    obtain ⟨d_4, q_5, hd_6, hc_7, h⟩ := h
    refine g_cV ca_X10_390 ob_10 hc_7 hd_6 (by decide) hr0 rfl rfl (by first | exact Nat.le_of_ble_eq_true rfl | decide) dX10_breaks_87 (kV (fun μ_8 hq_10 => ?_))
    have h := h μ_8 hq_10
    refine g_iinc dX10_breaks_90 rfl (by decide) (fun x4_11 ex4_11 => g_sub (lv' := [(0, .ref (D.2.2 10 r0)), (1, .int x1), (2, .int x2), (3, .int x3), (4, .int x4_11)]) [1, 2, 3, 4, 0] rfl ?_)
    have h := h x4_11 ex4_11
    refine g_goto (tgt := 78) dX10_breaks_93 (by decide) ?_
    exact g_sub [0, 1, 2, 3, 4] rfl h
theorem en_X10_breaks {l : Launch} {D : gD} {d : Nat} {q : Int32 → gMem → Prop} {r0 : Nat} {x1 : Int32} {x2 : Int32} {μ : gMem} (h : ∀ Γ : gC, pt_X10_breaks_0 l D d q Γ r0 x1 x2 μ) : Ctr l D d yX10_breaks cX10_breaks 5 (some .int) [.ref (D.2.2 10 r0), .int x1, .int x2] μ (pI q) :=
  Ctr_of rfl (by decide) (Nat.le_of_ble_eq_true rfl) (fun Γ => g_sub [0, 1, 2] rfl (h Γ))
def pt_X10_note_0 (l : Launch) (D : gD) (d : Nat) (q : Int32 → gMem → Prop) (Γ : gC) (r0 : Nat) (x1 : Int32) (x2 : Int32) (x3 : Int32) (x4 : Int32) (μ : gMem) : Prop := G l D RX10 cX10_note 5 (some .int) d (pI q) Γ 0 [(0, .ref (D.2.2 10 r0)), (1, .int x1), (2, .int x2), (3, .int x3), (4, .int x4)] [] μ
set_option maxRecDepth 20000 in
set_option maxHeartbeats 4000000 in
theorem bl_X10_note_0 {l : Launch} {D : gD} {d : Nat} {q : Int32 → gMem → Prop} {Γ : gC} {r0 : Nat} {x1 : Int32} {x2 : Int32} {x3 : Int32} {x4 : Int32} {μ : gMem} (hr0 : r0 < 1) (h : ∀ μ_1 : gMem, μ_1 = gsI μ 10 r0 0 (0 : Int32) → ((x1 < (1 : Int32)) → q (-1 : Int32) μ_1) ∧ ((¬ x1 < (1 : Int32)) → (((40 : Int32) < x1) → q (-1 : Int32) μ_1) ∧ ((¬ (40 : Int32) < x1) → ∃ (d_4 : Nat) (q_5 : Int32 → gMem → Prop), d_4 < d ∧ Ctr l D d_4 yX10_isMan cX10_isMan 2 (some .boolean) [.ref (D.2.2 10 r0), .int x2] μ_1 (pI q_5) ∧ ∀ (v_9 : Int32) (μ_8 : gMem), q_5 v_9 μ_8 → ((v_9 = 0) → q (-1 : Int32) μ_8) ∧ ((¬ v_9 = 0) → ((x3 < 0) → q (-1 : Int32) μ_8) ∧ ((¬ x3 < 0) → (((99999 : Int32) < x3) → q (-1 : Int32) μ_8) ∧ ((¬ (99999 : Int32) < x3) → ((¬ (μ_8.1 10 r0 55) = (24 : Int32)) → ∃ j_15 : Nat, j_15 < 24 ∧ μ_8.1 10 r0 55 = nI j_15 ∧ (∀ μ_16 : gMem, μ_16 = gsI μ_8 761 r0 j_15 x1 → ∃ j_17 : Nat, j_17 < 24 ∧ μ_16.1 10 r0 55 = nI j_17 ∧ (∀ μ_18 : gMem, μ_18 = gsI μ_16 762 r0 j_17 x2 → ∃ j_19 : Nat, j_19 < 24 ∧ μ_18.1 10 r0 55 = nI j_19 ∧ (∀ μ_20 : gMem, μ_20 = gsI μ_18 763 r0 j_19 x3 → ∃ j_21 : Nat, j_21 < 24 ∧ μ_20.1 10 r0 55 = nI j_21 ∧ (∀ μ_22 : gMem, μ_22 = gsI μ_20 764 r0 j_21 (vp_nar .boolean x4) → ∃ j_23 : Nat, j_23 < 24 ∧ μ_22.1 10 r0 55 = nI j_23 ∧ (∀ μ_24 : gMem, μ_24 = gsI μ_22 765 r0 j_23 (-1 : Int32) → ∀ μ_25 : gMem, μ_25 = gsI μ_24 10 r0 55 ((μ_24.1 10 r0 55) + (1 : Int32)) → q ((μ_25.1 10 r0 55) - (1 : Int32)) μ_25)))))) ∧ (((μ_8.1 10 r0 55) = (24 : Int32)) → q (-1 : Int32) μ_8))))))) : pt_X10_note_0 l D d q Γ r0 x1 x2 x3 x4 μ := by
  unfold pt_X10_note_0
  refine g_aload_n dX10_note_0 rfl ?_
  refine g_iconst (0 : Int32) dX10_note_1 rfl ?_
  refine g_pfI fi_10_145 hr0 rfl rfl dX10_note_2 ?_
  obtain ⟨μ_1, eμ_1⟩ : ∃ z : gMem, z = gsI μ 10 r0 0 (0 : Int32) := ⟨_, rfl⟩
  have h := h μ_1 eμ_1
  refine g_mem eμ_1.symm ?_
  refine g_iload_n dX10_note_5 rfl ?_
  refine g_iconst (1 : Int32) dX10_note_6 rfl ?_
  refine g_icmp_lt (tgt := 43) dX10_note_7 (by decide) (fun c_2 => ?_) (fun c_2 => ?_)
  · have h := h.1 c_2
    refine g_iconst (-1 : Int32) dX10_note_43 rfl ?_
    exact g_iret dX10_note_44 rfl rfl ⟨_, rfl, h⟩
  · have h := h.2 c_2
    refine g_iload_n dX10_note_10 rfl ?_
    refine g_bipush (40 : Int32) dX10_note_11 rfl ?_
    refine g_icmp_gt (tgt := 43) dX10_note_13 (by decide) (fun c_3 => ?_) (fun c_3 => ?_)
    · have h := h.1 c_3
      refine g_iconst (-1 : Int32) dX10_note_43 rfl ?_
      exact g_iret dX10_note_44 rfl rfl ⟨_, rfl, h⟩
    · have h := h.2 c_3
      refine g_aload_n dX10_note_16 rfl ?_
      refine g_iload_n dX10_note_17 rfl ?_
      obtain ⟨d_4, q_5, hd_6, hc_7, h⟩ := h
      refine g_cV ca_X10_394 ob_10 hc_7 hd_6 (by decide) hr0 rfl rfl (by first | exact Nat.le_of_ble_eq_true rfl | decide) dX10_note_18 (kI (fun v_9 μ_8 hq_10 => ?_))
      have h := h v_9 μ_8 hq_10
      refine g_if_eq (tgt := 43) dX10_note_21 (by decide) (fun c_11 => ?_) (fun c_11 => ?_)
      · have h := h.1 c_11
        refine g_iconst (-1 : Int32) dX10_note_43 rfl ?_
        exact g_iret dX10_note_44 rfl rfl ⟨_, rfl, h⟩
      · have h := h.2 c_11
        refine g_iload_n dX10_note_24 rfl ?_
        refine g_if_lt (tgt := 43) dX10_note_25 (by decide) (fun c_12 => ?_) (fun c_12 => ?_)
        · have h := h.1 c_12
          refine g_iconst (-1 : Int32) dX10_note_43 rfl ?_
          exact g_iret dX10_note_44 rfl rfl ⟨_, rfl, h⟩
        · have h := h.2 c_12
          refine g_iload_n dX10_note_28 rfl ?_
          refine g_ldc kc_X10_183 dX10_note_29 ?_
          refine g_icmp_gt (tgt := 43) dX10_note_31 (by decide) (fun c_13 => ?_) (fun c_13 => ?_)
          · have h := h.1 c_13
            refine g_iconst (-1 : Int32) dX10_note_43 rfl ?_
            exact g_iret dX10_note_44 rfl rfl ⟨_, rfl, h⟩
          · have h := h.2 c_13
            refine g_aload_n dX10_note_34 rfl ?_
            refine g_gfI fi_10_298 hr0 dX10_note_35 ?_
            refine g_bipush (24 : Int32) dX10_note_38 rfl ?_
            refine g_icmp_ne (tgt := 45) dX10_note_40 (by decide) (fun c_14 => ?_) (fun c_14 => ?_)
            · have h := h.1 c_14
              refine g_aload_n dX10_note_45 rfl ?_
              refine g_gfR fl_10_123 rfl hr0 dX10_note_46 ?_
              refine g_aload_n dX10_note_49 rfl ?_
              refine g_gfI fi_10_298 hr0 dX10_note_50 ?_
              refine g_iload_n dX10_note_53 rfl ?_
              obtain ⟨j_15, hj_15, ej_15, h⟩ := h
              refine g_iast j_15 hr0 rfl hj_15 (by decide) ej_15 dX10_note_54 ?_
              obtain ⟨μ_16, eμ_16⟩ : ∃ z : gMem, z = gsI μ_8 761 r0 j_15 x1 := ⟨_, rfl⟩
              have h := h μ_16 eμ_16
              refine g_mem eμ_16.symm ?_
              refine g_aload_n dX10_note_55 rfl ?_
              refine g_gfR fl_10_126 rfl hr0 dX10_note_56 ?_
              refine g_aload_n dX10_note_59 rfl ?_
              refine g_gfI fi_10_298 hr0 dX10_note_60 ?_
              refine g_iload_n dX10_note_63 rfl ?_
              obtain ⟨j_17, hj_17, ej_17, h⟩ := h
              refine g_iast j_17 hr0 rfl hj_17 (by decide) ej_17 dX10_note_64 ?_
              obtain ⟨μ_18, eμ_18⟩ : ∃ z : gMem, z = gsI μ_16 762 r0 j_17 x2 := ⟨_, rfl⟩
              have h := h μ_18 eμ_18
              refine g_mem eμ_18.symm ?_
              refine g_aload_n dX10_note_65 rfl ?_
              refine g_gfR fl_10_129 rfl hr0 dX10_note_66 ?_
              refine g_aload_n dX10_note_69 rfl ?_
              refine g_gfI fi_10_298 hr0 dX10_note_70 ?_
              refine g_iload_n dX10_note_73 rfl ?_
              obtain ⟨j_19, hj_19, ej_19, h⟩ := h
              refine g_iast j_19 hr0 rfl hj_19 (by decide) ej_19 dX10_note_74 ?_
              obtain ⟨μ_20, eμ_20⟩ : ∃ z : gMem, z = gsI μ_18 763 r0 j_19 x3 := ⟨_, rfl⟩
              have h := h μ_20 eμ_20
              refine g_mem eμ_20.symm ?_
              refine g_aload_n dX10_note_75 rfl ?_
              refine g_gfR fl_10_132 rfl hr0 dX10_note_76 ?_
              refine g_aload_n dX10_note_79 rfl ?_
              refine g_gfI fi_10_298 hr0 dX10_note_80 ?_
              refine g_iload dX10_note_83 rfl ?_
              obtain ⟨j_21, hj_21, ej_21, h⟩ := h
              refine g_zast j_21 hr0 rfl hj_21 (by decide) ej_21 dX10_note_85 ?_
              obtain ⟨μ_22, eμ_22⟩ : ∃ z : gMem, z = gsI μ_20 764 r0 j_21 (vp_nar .boolean x4) := ⟨_, rfl⟩
              have h := h μ_22 eμ_22
              refine g_mem eμ_22.symm ?_
              refine g_aload_n dX10_note_86 rfl ?_
              refine g_gfR fl_10_136 rfl hr0 dX10_note_87 ?_
              refine g_aload_n dX10_note_90 rfl ?_
              refine g_gfI fi_10_298 hr0 dX10_note_91 ?_
              refine g_iconst (-1 : Int32) dX10_note_94 rfl ?_
              obtain ⟨j_23, hj_23, ej_23, h⟩ := h
              refine g_iast j_23 hr0 rfl hj_23 (by decide) ej_23 dX10_note_95 ?_
              obtain ⟨μ_24, eμ_24⟩ : ∃ z : gMem, z = gsI μ_22 765 r0 j_23 (-1 : Int32) := ⟨_, rfl⟩
              have h := h μ_24 eμ_24
              refine g_mem eμ_24.symm ?_
              refine g_aload_n dX10_note_96 rfl ?_
              refine g_dup dX10_note_97 rfl ?_
              refine g_gfI fi_10_298 hr0 dX10_note_98 ?_
              refine g_iconst (1 : Int32) dX10_note_101 rfl ?_
              refine g_iadd dX10_note_102 ?_
              refine g_pfI fi_10_298 hr0 rfl rfl dX10_note_103 ?_
              obtain ⟨μ_25, eμ_25⟩ : ∃ z : gMem, z = gsI μ_24 10 r0 55 ((μ_24.1 10 r0 55) + (1 : Int32)) := ⟨_, rfl⟩
              have h := h μ_25 eμ_25
              refine g_mem eμ_25.symm ?_
              refine g_aload_n dX10_note_106 rfl ?_
              refine g_gfI fi_10_298 hr0 dX10_note_107 ?_
              refine g_iconst (1 : Int32) dX10_note_110 rfl ?_
              refine g_isub dX10_note_111 ?_
              exact g_iret dX10_note_112 rfl rfl ⟨_, rfl, h⟩
            · have h := h.2 c_14
              refine g_iconst (-1 : Int32) dX10_note_43 rfl ?_
              exact g_iret dX10_note_44 rfl rfl ⟨_, rfl, h⟩
theorem en_X10_note {l : Launch} {D : gD} {d : Nat} {q : Int32 → gMem → Prop} {r0 : Nat} {x1 : Int32} {x2 : Int32} {x3 : Int32} {x4 : Int32} {μ : gMem} (h : ∀ Γ : gC, pt_X10_note_0 l D d q Γ r0 x1 x2 x3 x4 μ) : Ctr l D d yX10_note cX10_note 5 (some .int) [.ref (D.2.2 10 r0), .int x1, .int x2, .int x3, .int x4] μ (pI q) :=
  Ctr_of rfl (by decide) (Nat.le_of_ble_eq_true rfl) (fun Γ => g_sub [0, 1, 2, 3, 4] rfl (h Γ))
def pt_X10_out_0 (l : Launch) (D : gD) (d : Nat) (q : Int32 → gMem → Prop) (Γ : gC) (r0 : Nat) (x1 : Int32) (μ : gMem) : Prop := G l D RX10 cX10_out 2 (some .int) d (pI q) Γ 0 [(0, .ref (D.2.2 10 r0)), (1, .int x1)] [] μ
set_option maxRecDepth 20000 in
set_option maxHeartbeats 4000000 in
theorem bl_X10_out_0 {l : Launch} {D : gD} {d : Nat} {q : Int32 → gMem → Prop} {Γ : gC} {r0 : Nat} {x1 : Int32} {μ : gMem} (hr0 : r0 < 1) (h : ∀ μ_1 : gMem, μ_1 = gsI μ 10 r0 0 (0 : Int32) → ((x1 < 0) → q (-1 : Int32) μ_1) ∧ ((¬ x1 < 0) → (((μ_1.1 10 r0 55) ≤ x1) → q (-1 : Int32) μ_1) ∧ ((¬ (μ_1.1 10 r0 55) ≤ x1) → ((¬ (μ_1.1 10 r0 55) = (24 : Int32)) → ∃ j_5 : Nat, j_5 < 24 ∧ μ_1.1 10 r0 55 = nI j_5 ∧ (∀ μ_6 : gMem, μ_6 = gsI μ_1 765 r0 j_5 x1 → ∀ μ_7 : gMem, μ_7 = gsI μ_6 10 r0 55 ((μ_6.1 10 r0 55) + (1 : Int32)) → q ((μ_7.1 10 r0 55) - (1 : Int32)) μ_7)) ∧ (((μ_1.1 10 r0 55) = (24 : Int32)) → q (-1 : Int32) μ_1)))) : pt_X10_out_0 l D d q Γ r0 x1 μ := by
  unfold pt_X10_out_0
  refine g_aload_n dX10_out_0 rfl ?_
  refine g_iconst (0 : Int32) dX10_out_1 rfl ?_
  refine g_pfI fi_10_145 hr0 rfl rfl dX10_out_2 ?_
  obtain ⟨μ_1, eμ_1⟩ : ∃ z : gMem, z = gsI μ 10 r0 0 (0 : Int32) := ⟨_, rfl⟩
  have h := h μ_1 eμ_1
  refine g_mem eμ_1.symm ?_
  refine g_iload_n dX10_out_5 rfl ?_
  refine g_if_lt (tgt := 26) dX10_out_6 (by decide) (fun c_2 => ?_) (fun c_2 => ?_)
  · have h := h.1 c_2
    refine g_iconst (-1 : Int32) dX10_out_26 rfl ?_
    exact g_iret dX10_out_27 rfl rfl ⟨_, rfl, h⟩
  · have h := h.2 c_2
    refine g_iload_n dX10_out_9 rfl ?_
    refine g_aload_n dX10_out_10 rfl ?_
    refine g_gfI fi_10_298 hr0 dX10_out_11 ?_
    refine g_icmp_ge (tgt := 26) dX10_out_14 (by decide) (fun c_3 => ?_) (fun c_3 => ?_)
    · have h := h.1 c_3
      refine g_iconst (-1 : Int32) dX10_out_26 rfl ?_
      exact g_iret dX10_out_27 rfl rfl ⟨_, rfl, h⟩
    · have h := h.2 c_3
      refine g_aload_n dX10_out_17 rfl ?_
      refine g_gfI fi_10_298 hr0 dX10_out_18 ?_
      refine g_bipush (24 : Int32) dX10_out_21 rfl ?_
      refine g_icmp_ne (tgt := 28) dX10_out_23 (by decide) (fun c_4 => ?_) (fun c_4 => ?_)
      · have h := h.1 c_4
        refine g_aload_n dX10_out_28 rfl ?_
        refine g_gfR fl_10_136 rfl hr0 dX10_out_29 ?_
        refine g_aload_n dX10_out_32 rfl ?_
        refine g_gfI fi_10_298 hr0 dX10_out_33 ?_
        refine g_iload_n dX10_out_36 rfl ?_
        obtain ⟨j_5, hj_5, ej_5, h⟩ := h
        refine g_iast j_5 hr0 rfl hj_5 (by decide) ej_5 dX10_out_37 ?_
        obtain ⟨μ_6, eμ_6⟩ : ∃ z : gMem, z = gsI μ_1 765 r0 j_5 x1 := ⟨_, rfl⟩
        have h := h μ_6 eμ_6
        refine g_mem eμ_6.symm ?_
        refine g_aload_n dX10_out_38 rfl ?_
        refine g_dup dX10_out_39 rfl ?_
        refine g_gfI fi_10_298 hr0 dX10_out_40 ?_
        refine g_iconst (1 : Int32) dX10_out_43 rfl ?_
        refine g_iadd dX10_out_44 ?_
        refine g_pfI fi_10_298 hr0 rfl rfl dX10_out_45 ?_
        obtain ⟨μ_7, eμ_7⟩ : ∃ z : gMem, z = gsI μ_6 10 r0 55 ((μ_6.1 10 r0 55) + (1 : Int32)) := ⟨_, rfl⟩
        have h := h μ_7 eμ_7
        refine g_mem eμ_7.symm ?_
        refine g_aload_n dX10_out_48 rfl ?_
        refine g_gfI fi_10_298 hr0 dX10_out_49 ?_
        refine g_iconst (1 : Int32) dX10_out_52 rfl ?_
        refine g_isub dX10_out_53 ?_
        exact g_iret dX10_out_54 rfl rfl ⟨_, rfl, h⟩
      · have h := h.2 c_4
        refine g_iconst (-1 : Int32) dX10_out_26 rfl ?_
        exact g_iret dX10_out_27 rfl rfl ⟨_, rfl, h⟩
theorem en_X10_out {l : Launch} {D : gD} {d : Nat} {q : Int32 → gMem → Prop} {r0 : Nat} {x1 : Int32} {μ : gMem} (h : ∀ Γ : gC, pt_X10_out_0 l D d q Γ r0 x1 μ) : Ctr l D d yX10_out cX10_out 2 (some .int) [.ref (D.2.2 10 r0), .int x1] μ (pI q) :=
  Ctr_of rfl (by decide) (Nat.le_of_ble_eq_true rfl) (fun Γ => g_sub [0, 1] rfl (h Γ))
def pt_X10_known_0 (l : Launch) (D : gD) (d : Nat) (q : Int32 → gMem → Prop) (Γ : gC) (r0 : Nat) (x1 : Int32) (μ : gMem) : Prop := G l D RX10 cX10_known 2 (some .boolean) d (pI q) Γ 0 [(0, .ref (D.2.2 10 r0)), (1, .int x1)] [] μ
set_option maxRecDepth 20000 in
set_option maxHeartbeats 4000000 in
theorem bl_X10_known_0 {l : Launch} {D : gD} {d : Nat} {q : Int32 → gMem → Prop} {Γ : gC} {r0 : Nat} {x1 : Int32} {μ : gMem} (hr0 : r0 < 1) (h : ∀ μ_1 : gMem, μ_1 = gsI μ 10 r0 0 (0 : Int32) → ((x1 < (-1 : Int32)) → q (0 : Int32) μ_1) ∧ ((¬ x1 < (-1 : Int32)) → ((x1 ≤ (μ_1.1 10 r0 55)) → ∀ μ_4 : gMem, μ_4 = gsI μ_1 10 r0 56 x1 → q (1 : Int32) μ_4) ∧ ((¬ x1 ≤ (μ_1.1 10 r0 55)) → q (0 : Int32) μ_1))) : pt_X10_known_0 l D d q Γ r0 x1 μ := by
  unfold pt_X10_known_0
  refine g_aload_n dX10_known_0 rfl ?_
  refine g_iconst (0 : Int32) dX10_known_1 rfl ?_
  refine g_pfI fi_10_145 hr0 rfl rfl dX10_known_2 ?_
  obtain ⟨μ_1, eμ_1⟩ : ∃ z : gMem, z = gsI μ 10 r0 0 (0 : Int32) := ⟨_, rfl⟩
  have h := h μ_1 eμ_1
  refine g_mem eμ_1.symm ?_
  refine g_iload_n dX10_known_5 rfl ?_
  refine g_iconst (-1 : Int32) dX10_known_6 rfl ?_
  refine g_icmp_lt (tgt := 18) dX10_known_7 (by decide) (fun c_2 => ?_) (fun c_2 => ?_)
  · have h := h.1 c_2
    refine g_iconst (0 : Int32) dX10_known_18 rfl ?_
    exact g_iret dX10_known_19 rfl rfl ⟨_, rfl, h⟩
  · have h := h.2 c_2
    refine g_iload_n dX10_known_10 rfl ?_
    refine g_aload_n dX10_known_11 rfl ?_
    refine g_gfI fi_10_298 hr0 dX10_known_12 ?_
    refine g_icmp_le (tgt := 20) dX10_known_15 (by decide) (fun c_3 => ?_) (fun c_3 => ?_)
    · have h := h.1 c_3
      refine g_aload_n dX10_known_20 rfl ?_
      refine g_iload_n dX10_known_21 rfl ?_
      refine g_pfI fi_10_120 hr0 rfl rfl dX10_known_22 ?_
      obtain ⟨μ_4, eμ_4⟩ : ∃ z : gMem, z = gsI μ_1 10 r0 56 x1 := ⟨_, rfl⟩
      have h := h μ_4 eμ_4
      refine g_mem eμ_4.symm ?_
      refine g_iconst (1 : Int32) dX10_known_25 rfl ?_
      exact g_iret dX10_known_26 rfl rfl ⟨_, rfl, h⟩
    · have h := h.2 c_3
      refine g_iconst (0 : Int32) dX10_known_18 rfl ?_
      exact g_iret dX10_known_19 rfl rfl ⟨_, rfl, h⟩
theorem en_X10_known {l : Launch} {D : gD} {d : Nat} {q : Int32 → gMem → Prop} {r0 : Nat} {x1 : Int32} {μ : gMem} (h : ∀ Γ : gC, pt_X10_known_0 l D d q Γ r0 x1 μ) : Ctr l D d yX10_known cX10_known 2 (some .boolean) [.ref (D.2.2 10 r0), .int x1] μ (pI q) :=
  Ctr_of rfl (by decide) (Nat.le_of_ble_eq_true rfl) (fun Γ => g_sub [0, 1] rfl (h Γ))
def pt_X10_knownMany_0 (l : Launch) (D : gD) (d : Nat) (q : Int32 → gMem → Prop) (Γ : gC) (r0 : Nat) (μ : gMem) : Prop := G l D RX10 cX10_knownMany 1 (some .int) d (pI q) Γ 0 [(0, .ref (D.2.2 10 r0))] [] μ
set_option maxRecDepth 20000 in
set_option maxHeartbeats 4000000 in
theorem bl_X10_knownMany_0 {l : Launch} {D : gD} {d : Nat} {q : Int32 → gMem → Prop} {Γ : gC} {r0 : Nat} {μ : gMem} (hr0 : r0 < 1) (h : ((¬ (μ.1 10 r0 56) = (-1 : Int32)) → q (μ.1 10 r0 56) μ) ∧ (((μ.1 10 r0 56) = (-1 : Int32)) → q (μ.1 10 r0 55) μ)) : pt_X10_knownMany_0 l D d q Γ r0 μ := by
  unfold pt_X10_knownMany_0
  refine g_aload_n dX10_knownMany_0 rfl ?_
  refine g_gfI fi_10_120 hr0 dX10_knownMany_1 ?_
  refine g_iconst (-1 : Int32) dX10_knownMany_4 rfl ?_
  refine g_icmp_ne (tgt := 15) dX10_knownMany_5 (by decide) (fun c_1 => ?_) (fun c_1 => ?_)
  · have h := h.1 c_1
    refine g_aload_n dX10_knownMany_15 rfl ?_
    refine g_gfI fi_10_120 hr0 dX10_knownMany_16 ?_
    exact g_iret dX10_knownMany_19 rfl rfl ⟨_, rfl, h⟩
  · have h := h.2 c_1
    refine g_aload_n dX10_knownMany_8 rfl ?_
    refine g_gfI fi_10_298 hr0 dX10_knownMany_9 ?_
    refine g_goto (tgt := 19) dX10_knownMany_12 (by decide) ?_
    exact g_iret dX10_knownMany_19 rfl rfl ⟨_, rfl, h⟩
theorem en_X10_knownMany {l : Launch} {D : gD} {d : Nat} {q : Int32 → gMem → Prop} {r0 : Nat} {μ : gMem} (h : ∀ Γ : gC, pt_X10_knownMany_0 l D d q Γ r0 μ) : Ctr l D d yX10_knownMany cX10_knownMany 1 (some .int) [.ref (D.2.2 10 r0)] μ (pI q) :=
  Ctr_of rfl (by decide) (Nat.le_of_ble_eq_true rfl) (fun Γ => g_sub [0] rfl (h Γ))
def pt_X10_isSo_0 (l : Launch) (D : gD) (d : Nat) (q : Int32 → gMem → Prop) (Γ : gC) (r0 : Nat) (x1 : Int32) (μ : gMem) : Prop := G l D RX10 cX10_isSo 3 (some .boolean) d (pI q) Γ 0 [(0, .ref (D.2.2 10 r0)), (1, .int x1)] [] μ
def pt_X10_isSo_1 (l : Launch) (D : gD) (d : Nat) (q : Int32 → gMem → Prop) (Γ : gC) (r0 : Nat) (x1 : Int32) (x2 : Int32) (μ : gMem) : Prop := G l D RX10 cX10_isSo 3 (some .boolean) d (pI q) Γ 2 [(0, .ref (D.2.2 10 r0)), (1, .int x1), (2, .int x2)] [] μ
def pt_X10_isSo_2 (l : Launch) (D : gD) (d : Nat) (q : Int32 → gMem → Prop) (Γ : gC) (r0 : Nat) (x1 : Int32) (x2 : Int32) (xs0 : Int32) (μ : gMem) : Prop := G l D RX10 cX10_isSo 3 (some .boolean) d (pI q) Γ 69 [(0, .ref (D.2.2 10 r0)), (1, .int x1), (2, .int x2)] [.int xs0] μ
def pt_X10_isSo_3 (l : Launch) (D : gD) (d : Nat) (q : Int32 → gMem → Prop) (Γ : gC) (r0 : Nat) (x1 : Int32) (x2 : Int32) (μ : gMem) : Prop := G l D RX10 cX10_isSo 3 (some .boolean) d (pI q) Γ 80 [(0, .ref (D.2.2 10 r0)), (1, .int x1), (2, .int x2)] [] μ
set_option maxRecDepth 20000 in
set_option maxHeartbeats 4000000 in
theorem bl_X10_isSo_0 {l : Launch} {D : gD} {d : Nat} {q : Int32 → gMem → Prop} {Γ : gC} {r0 : Nat} {x1 : Int32} {μ : gMem} (hr0 : r0 < 1) (h : ∀ x2_1 : Int32, x2_1 = (0 : Int32) → pt_X10_isSo_1 l D d q Γ r0 x1 x2_1 μ) : pt_X10_isSo_0 l D d q Γ r0 x1 μ := by
  unfold pt_X10_isSo_0
  refine g_iconst (0 : Int32) dX10_isSo_0 rfl ?_
  refine g_istore_n dX10_isSo_1 (by decide) (fun x2_1 ex2_1 => g_sub (lv' := [(0, .ref (D.2.2 10 r0)), (1, .int x1), (2, .int x2_1)]) [1, 2, 0] rfl ?_)
  have h := h x2_1 ex2_1
  exact g_sub [0, 1, 2] rfl h
set_option maxRecDepth 20000 in
set_option maxHeartbeats 4000000 in
theorem bl_X10_isSo_1 {l : Launch} {D : gD} {d : Nat} {q : Int32 → gMem → Prop} {Γ : gC} {r0 : Nat} {x1 : Int32} {x2 : Int32} {μ : gMem} (hr0 : r0 < 1) (h : ∃ (d_1 : Nat) (q_2 : Int32 → gMem → Prop), d_1 < d ∧ Ctr l D d_1 yX10_knownMany cX10_knownMany 1 (some .int) [.ref (D.2.2 10 r0)] μ (pI q_2) ∧ ∀ (v_6 : Int32) (μ_5 : gMem), q_2 v_6 μ_5 → ((v_6 ≤ x2) → q (1 : Int32) μ_5) ∧ ((¬ v_6 ≤ x2) → ∃ j_9 : Nat, j_9 < 24 ∧ x2 = nI j_9 ∧ (((¬ (μ_5.1 766 r0 j_9) = 0) → pt_X10_isSo_3 l D d q Γ r0 x1 x2 μ_5) ∧ (((μ_5.1 766 r0 j_9) = 0) → ∃ j_11 : Nat, j_11 < 24 ∧ x2 = nI j_11 ∧ (((¬ (μ_5.1 765 r0 j_11) = (-1 : Int32)) → pt_X10_isSo_3 l D d q Γ r0 x1 x2 μ_5) ∧ (((μ_5.1 765 r0 j_11) = (-1 : Int32)) → ∃ j_13 : Nat, j_13 < 24 ∧ x2 = nI j_13 ∧ ((((μ_5.1 761 r0 j_13) = x1) → ∃ j_15 : Nat, j_15 < 24 ∧ x2 = nI j_15 ∧ (∃ j_16 : Nat, j_16 < 115 ∧ (5 : Int32) + (μ_5.1 762 r0 j_15) = nI j_16 ∧ (∃ j_17 : Nat, j_17 < 24 ∧ x2 = nI j_17 ∧ ((((μ_5.1 746 r0 j_16) < (μ_5.1 763 r0 j_17)) → pt_X10_isSo_2 l D d q Γ r0 x1 x2 (0 : Int32) μ_5) ∧ ((¬ (μ_5.1 746 r0 j_16) < (μ_5.1 763 r0 j_17)) → pt_X10_isSo_2 l D d q Γ r0 x1 x2 (1 : Int32) μ_5))))) ∧ ((¬ (μ_5.1 761 r0 j_13) = x1) → pt_X10_isSo_3 l D d q Γ r0 x1 x2 μ_5)))))))) : pt_X10_isSo_1 l D d q Γ r0 x1 x2 μ := by
  unfold pt_X10_isSo_1
  refine g_iload_n dX10_isSo_2 rfl ?_
  refine g_aload_n dX10_isSo_3 rfl ?_
  obtain ⟨d_1, q_2, hd_3, hc_4, h⟩ := h
  refine g_cV ca_X10_431 ob_10 hc_4 hd_3 (by decide) hr0 rfl rfl (by first | exact Nat.le_of_ble_eq_true rfl | decide) dX10_isSo_4 (kI (fun v_6 μ_5 hq_7 => ?_))
  have h := h v_6 μ_5 hq_7
  refine g_icmp_ge (tgt := 86) dX10_isSo_7 (by decide) (fun c_8 => ?_) (fun c_8 => ?_)
  · have h := h.1 c_8
    refine g_iconst (1 : Int32) dX10_isSo_86 rfl ?_
    exact g_iret dX10_isSo_87 rfl rfl ⟨_, rfl, h⟩
  · have h := h.2 c_8
    refine g_aload_n dX10_isSo_10 rfl ?_
    refine g_gfR fl_10_139 rfl hr0 dX10_isSo_11 ?_
    refine g_iload_n dX10_isSo_14 rfl ?_
    obtain ⟨j_9, hj_9, ej_9, h⟩ := h
    refine g_zald j_9 hr0 rfl hj_9 (by decide) ej_9 dX10_isSo_15 ?_
    refine g_if_ne (tgt := 80) dX10_isSo_16 (by decide) (fun c_10 => ?_) (fun c_10 => ?_)
    · have h := h.1 c_10
      exact g_sub [0, 1, 2] rfl h
    · have h := h.2 c_10
      refine g_aload_n dX10_isSo_19 rfl ?_
      refine g_gfR fl_10_136 rfl hr0 dX10_isSo_20 ?_
      refine g_iload_n dX10_isSo_23 rfl ?_
      obtain ⟨j_11, hj_11, ej_11, h⟩ := h
      refine g_iald j_11 hr0 rfl hj_11 (by decide) ej_11 dX10_isSo_24 ?_
      refine g_iconst (-1 : Int32) dX10_isSo_25 rfl ?_
      refine g_icmp_ne (tgt := 80) dX10_isSo_26 (by decide) (fun c_12 => ?_) (fun c_12 => ?_)
      · have h := h.1 c_12
        exact g_sub [0, 1, 2] rfl h
      · have h := h.2 c_12
        refine g_aload_n dX10_isSo_29 rfl ?_
        refine g_gfR fl_10_123 rfl hr0 dX10_isSo_30 ?_
        refine g_iload_n dX10_isSo_33 rfl ?_
        obtain ⟨j_13, hj_13, ej_13, h⟩ := h
        refine g_iald j_13 hr0 rfl hj_13 (by decide) ej_13 dX10_isSo_34 ?_
        refine g_iload_n dX10_isSo_35 rfl ?_
        refine g_icmp_eq (tgt := 42) dX10_isSo_36 (by decide) (fun c_14 => ?_) (fun c_14 => ?_)
        · have h := h.1 c_14
          refine g_aload_n dX10_isSo_42 rfl ?_
          refine g_gfR fl_10_93 rfl hr0 dX10_isSo_43 ?_
          refine g_iconst (5 : Int32) dX10_isSo_46 rfl ?_
          refine g_aload_n dX10_isSo_47 rfl ?_
          refine g_gfR fl_10_126 rfl hr0 dX10_isSo_48 ?_
          refine g_iload_n dX10_isSo_51 rfl ?_
          obtain ⟨j_15, hj_15, ej_15, h⟩ := h
          refine g_iald j_15 hr0 rfl hj_15 (by decide) ej_15 dX10_isSo_52 ?_
          refine g_iadd dX10_isSo_53 ?_
          obtain ⟨j_16, hj_16, ej_16, h⟩ := h
          refine g_iald j_16 hr0 rfl hj_16 (by decide) ej_16 dX10_isSo_54 ?_
          refine g_aload_n dX10_isSo_55 rfl ?_
          refine g_gfR fl_10_129 rfl hr0 dX10_isSo_56 ?_
          refine g_iload_n dX10_isSo_59 rfl ?_
          obtain ⟨j_17, hj_17, ej_17, h⟩ := h
          refine g_iald j_17 hr0 rfl hj_17 (by decide) ej_17 dX10_isSo_60 ?_
          refine g_icmp_lt (tgt := 68) dX10_isSo_61 (by decide) (fun c_18 => ?_) (fun c_18 => ?_)
          · have h := h.1 c_18
            refine g_iconst (0 : Int32) dX10_isSo_68 rfl ?_
            exact g_sub [0, 1, 2] rfl h
          · have h := h.2 c_18
            refine g_iconst (1 : Int32) dX10_isSo_64 rfl ?_
            refine g_goto (tgt := 69) dX10_isSo_65 (by decide) ?_
            exact g_sub [0, 1, 2] rfl h
        · have h := h.2 c_14
          refine g_goto (tgt := 80) dX10_isSo_39 (by decide) ?_
          exact g_sub [0, 1, 2] rfl h
set_option maxRecDepth 20000 in
set_option maxHeartbeats 4000000 in
theorem bl_X10_isSo_2 {l : Launch} {D : gD} {d : Nat} {q : Int32 → gMem → Prop} {Γ : gC} {r0 : Nat} {x1 : Int32} {x2 : Int32} {xs0 : Int32} {μ : gMem} (hr0 : r0 < 1) (h : ∃ j_1 : Nat, j_1 < 24 ∧ x2 = nI j_1 ∧ (((xs0 = (μ.1 764 r0 j_1)) → pt_X10_isSo_3 l D d q Γ r0 x1 x2 μ) ∧ ((¬ xs0 = (μ.1 764 r0 j_1)) → q (0 : Int32) μ))) : pt_X10_isSo_2 l D d q Γ r0 x1 x2 xs0 μ := by
  unfold pt_X10_isSo_2
  refine g_aload_n dX10_isSo_69 rfl ?_
  refine g_gfR fl_10_132 rfl hr0 dX10_isSo_70 ?_
  refine g_iload_n dX10_isSo_73 rfl ?_
  obtain ⟨j_1, hj_1, ej_1, h⟩ := h
  refine g_zald j_1 hr0 rfl hj_1 (by decide) ej_1 dX10_isSo_74 ?_
  refine g_icmp_eq (tgt := 80) dX10_isSo_75 (by decide) (fun c_2 => ?_) (fun c_2 => ?_)
  · have h := h.1 c_2
    exact g_sub [0, 1, 2] rfl h
  · have h := h.2 c_2
    refine g_iconst (0 : Int32) dX10_isSo_78 rfl ?_
    exact g_iret dX10_isSo_79 rfl rfl ⟨_, rfl, h⟩
set_option maxRecDepth 20000 in
set_option maxHeartbeats 4000000 in
theorem bl_X10_isSo_3 {l : Launch} {D : gD} {d : Nat} {q : Int32 → gMem → Prop} {Γ : gC} {r0 : Nat} {x1 : Int32} {x2 : Int32} {μ : gMem} (hr0 : r0 < 1) (h : ∀ x2_1 : Int32, x2_1 = x2 + (1 : Int32) → pt_X10_isSo_1 l D d q Γ r0 x1 x2_1 μ) : pt_X10_isSo_3 l D d q Γ r0 x1 x2 μ := by
  unfold pt_X10_isSo_3
  refine g_iinc dX10_isSo_80 rfl (by decide) (fun x2_1 ex2_1 => g_sub (lv' := [(0, .ref (D.2.2 10 r0)), (1, .int x1), (2, .int x2_1)]) [1, 2, 0] rfl ?_)
  have h := h x2_1 ex2_1
  refine g_goto (tgt := 2) dX10_isSo_83 (by decide) ?_
  exact g_sub [0, 1, 2] rfl h
theorem en_X10_isSo {l : Launch} {D : gD} {d : Nat} {q : Int32 → gMem → Prop} {r0 : Nat} {x1 : Int32} {μ : gMem} (h : ∀ Γ : gC, pt_X10_isSo_0 l D d q Γ r0 x1 μ) : Ctr l D d yX10_isSo cX10_isSo 3 (some .boolean) [.ref (D.2.2 10 r0), .int x1] μ (pI q) :=
  Ctr_of rfl (by decide) (Nat.le_of_ble_eq_true rfl) (fun Γ => g_sub [0, 1] rfl (h Γ))
