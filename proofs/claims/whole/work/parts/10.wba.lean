def pt_X5_readText_0 (l : Launch) (D : gD) (d : Nat) (q : Int32 → gMem → Prop) (Γ : gC) (r0 : Nat) (r1 : Nat) (x2 : Int32) (μ : gMem) : Prop := G l D RX5 cX5_readText 5 (some .int) d (pI q) Γ 0 [(0, .ref (D.2.2 5 r0)), (1, .ref (D.2.2 7 r1)), (2, .int x2)] [] μ
def pt_X5_readText_1 (l : Launch) (D : gD) (d : Nat) (q : Int32 → gMem → Prop) (Γ : gC) (r0 : Nat) (x2 : Int32) (x3 : Int32) (μ : gMem) : Prop := G l D RX5 cX5_readText 5 (some .int) d (pI q) Γ 14 [(0, .ref (D.2.2 5 r0)), (2, .int x2), (3, .int x3)] [] μ
def pt_X5_readText_2 (l : Launch) (D : gD) (d : Nat) (q : Int32 → gMem → Prop) (Γ : gC) (r0 : Nat) (x3 : Int32) (x4 : Int32) (μ : gMem) : Prop := G l D RX5 cX5_readText 5 (some .int) d (pI q) Γ 59 [(0, .ref (D.2.2 5 r0)), (3, .int x3), (4, .int x4)] [] μ
set_option maxRecDepth 20000 in
set_option maxHeartbeats 4000000 in
theorem bl_X5_readText_0 {l : Launch} {D : gD} {d : Nat} {q : Int32 → gMem → Prop} {Γ : gC} {r0 : Nat} {r1 : Nat} {x2 : Int32} {μ : gMem} (hr0 : r0 < 1) (hr1 : r1 < 2) (h : ∀ μ_1 : gMem, μ_1 = gsR μ 2 r1 → (μ_1.2.2 2 < 2) ∧ (∃ (d_3 : Nat) (q_4 : gMem → Prop), d_3 < d ∧ Ctr l D d_3 yX7_clear cX7_clear 1 none [.ref (D.2.2 7 (μ_1.2.2 2))] μ_1 (pV q_4) ∧ ∀ (μ_7 : gMem), q_4 μ_7 → ∀ x3_10 : Int32, x3_10 = (0 : Int32) → pt_X5_readText_1 l D d q Γ r0 x2 x3_10 μ_7)) : pt_X5_readText_0 l D d q Γ r0 r1 x2 μ := by
  unfold pt_X5_readText_0
  refine g_aload_n dX5_readText_0 rfl ?_
  refine g_aload_n dX5_readText_1 rfl ?_
  refine g_pfR (n := 2) fl_5_33 (by simp [gRf]) hr0 hr1 dX5_readText_2 ?_
  obtain ⟨μ_1, eμ_1⟩ : ∃ z : gMem, z = gsR μ 2 r1 := ⟨_, rfl⟩
  have h := h μ_1 eμ_1
  refine g_mem eμ_1.symm ?_
  refine g_aload_n dX5_readText_5 rfl ?_
  obtain ⟨hR_2, h⟩ := h
  refine g_gfR5 fl_5_33 (by assumption) hr0 dX5_readText_6 ?_
  obtain ⟨d_3, q_4, hd_5, hc_6, h⟩ := h
  refine g_cV ca_X5_37 ob_7 hc_6 hd_5 (by decide) hR_2 rfl rfl (by first | exact Nat.le_of_ble_eq_true rfl | decide) dX5_readText_9 (kV (fun μ_7 hq_9 => ?_))
  have h := h μ_7 hq_9
  refine g_iconst (0 : Int32) dX5_readText_12 rfl ?_
  refine g_istore_n dX5_readText_13 (by decide) (fun x3_10 ex3_10 => g_sub (lv' := [(0, .ref (D.2.2 5 r0)), (2, .int x2), (3, .int x3_10)]) [1, 3, 0] rfl ?_)
  have h := h x3_10 ex3_10
  exact g_sub [0, 1, 2] rfl h
set_option maxRecDepth 20000 in
set_option maxHeartbeats 4000000 in
theorem bl_X5_readText_1 {l : Launch} {D : gD} {d : Nat} {q : Int32 → gMem → Prop} {Γ : gC} {r0 : Nat} {x2 : Int32} {x3 : Int32} {μ : gMem} (hr0 : r0 < 1) (h : (((nI 4) ≤ x3) → ∀ μ_2 : gMem, μ_2 = gsI μ 5 r0 5 (0 : Int32) → ∀ μ_3 : gMem, μ_3 = gsI μ_2 5 r0 6 (-1 : Int32) → ∃ (d_4 : Nat) (q_5 : gMem → Prop), d_4 < d ∧ Ctr l D d_4 yX6_begin cX6_begin 2 none [.ref (D.2.2 6 0), .int x2] μ_3 (pV q_5) ∧ ∀ (μ_8 : gMem), q_5 μ_8 → ∀ x3_11 : Int32, x3_11 = (0 : Int32) → ∀ x4_12 : Int32, x4_12 = x2 → pt_X5_readText_2 l D d q Γ r0 x3_11 x4_12 μ_8) ∧ ((¬ (nI 4) ≤ x3) → ∃ j_13 : Nat, j_13 < 4 ∧ x3 = nI j_13 ∧ (∀ μ_14 : gMem, μ_14 = gsI μ 386 r0 j_13 (vp_nar .boolean (0 : Int32)) → ∀ x3_15 : Int32, x3_15 = x3 + (1 : Int32) → pt_X5_readText_1 l D d q Γ r0 x2 x3_15 μ_14))) : pt_X5_readText_1 l D d q Γ r0 x2 x3 μ := by
  unfold pt_X5_readText_1
  refine g_iload_n dX5_readText_14 rfl ?_
  refine g_aload_n dX5_readText_15 rfl ?_
  refine g_gfR fl_5_18 rfl hr0 dX5_readText_16 ?_
  refine g_alen hr0 rfl (by decide) dX5_readText_19 ?_
  refine g_icmp_ge (tgt := 36) dX5_readText_20 (by decide) (fun c_1 => ?_) (fun c_1 => ?_)
  · have h := h.1 c_1
    refine g_aload_n dX5_readText_36 rfl ?_
    refine g_iconst (0 : Int32) dX5_readText_37 rfl ?_
    refine g_pfI fi_5_22 hr0 rfl rfl dX5_readText_38 ?_
    obtain ⟨μ_2, eμ_2⟩ : ∃ z : gMem, z = gsI μ 5 r0 5 (0 : Int32) := ⟨_, rfl⟩
    have h := h μ_2 eμ_2
    refine g_mem eμ_2.symm ?_
    refine g_aload_n dX5_readText_41 rfl ?_
    refine g_iconst (-1 : Int32) dX5_readText_42 rfl ?_
    refine g_pfI fi_5_26 hr0 rfl rfl dX5_readText_43 ?_
    obtain ⟨μ_3, eμ_3⟩ : ∃ z : gMem, z = gsI μ_2 5 r0 6 (-1 : Int32) := ⟨_, rfl⟩
    have h := h μ_3 eμ_3
    refine g_mem eμ_3.symm ?_
    refine g_aload_n dX5_readText_46 rfl ?_
    refine g_gfR fl_5_29 rfl hr0 dX5_readText_47 ?_
    refine g_iload_n dX5_readText_50 rfl ?_
    obtain ⟨d_4, q_5, hd_6, hc_7, h⟩ := h
    refine g_cV ca_X5_42 ob_6 hc_7 hd_6 (by decide) (by decide) rfl rfl (by first | exact Nat.le_of_ble_eq_true rfl | decide) dX5_readText_51 (kV (fun μ_8 hq_10 => ?_))
    have h := h μ_8 hq_10
    refine g_iconst (0 : Int32) dX5_readText_54 rfl ?_
    refine g_istore_n dX5_readText_55 (by decide) (fun x3_11 ex3_11 => g_sub (lv' := [(0, .ref (D.2.2 5 r0)), (2, .int x2), (3, .int x3_11)]) [1, 2, 0] rfl ?_)
    have h := h x3_11 ex3_11
    refine g_iload_n dX5_readText_56 rfl ?_
    refine g_istore dX5_readText_57 (by decide) (fun x4_12 ex4_12 => g_sub (lv' := [(0, .ref (D.2.2 5 r0)), (3, .int x3_11), (4, .int x4_12)]) [1, 3, 0] rfl ?_)
    have h := h x4_12 ex4_12
    exact g_sub [0, 1, 2] rfl h
  · have h := h.2 c_1
    refine g_aload_n dX5_readText_23 rfl ?_
    refine g_gfR fl_5_18 rfl hr0 dX5_readText_24 ?_
    refine g_iload_n dX5_readText_27 rfl ?_
    refine g_iconst (0 : Int32) dX5_readText_28 rfl ?_
    obtain ⟨j_13, hj_13, ej_13, h⟩ := h
    refine g_zast j_13 hr0 rfl hj_13 (by decide) ej_13 dX5_readText_29 ?_
    obtain ⟨μ_14, eμ_14⟩ : ∃ z : gMem, z = gsI μ 386 r0 j_13 (vp_nar .boolean (0 : Int32)) := ⟨_, rfl⟩
    have h := h μ_14 eμ_14
    refine g_mem eμ_14.symm ?_
    refine g_iinc dX5_readText_30 rfl (by decide) (fun x3_15 ex3_15 => g_sub (lv' := [(0, .ref (D.2.2 5 r0)), (2, .int x2), (3, .int x3_15)]) [1, 2, 0] rfl ?_)
    have h := h x3_15 ex3_15
    refine g_goto (tgt := 14) dX5_readText_33 (by decide) ?_
    exact g_sub [0, 1, 2] rfl h
set_option maxRecDepth 20000 in
set_option maxHeartbeats 4000000 in
theorem bl_X5_readText_2 {l : Launch} {D : gD} {d : Nat} {q : Int32 → gMem → Prop} {Γ : gC} {r0 : Nat} {x3 : Int32} {x4 : Int32} {μ : gMem} (hr0 : r0 < 1) (h : ((x4 ≤ 0) → q x3 μ) ∧ ((¬ x4 ≤ 0) → (((μ.1 6 0 5) = (36 : Int32)) → q x3 μ) ∧ ((¬ (μ.1 6 0 5) = (36 : Int32)) → ∃ (d_3 : Nat) (q_4 : Int32 → gMem → Prop), d_3 < d ∧ Ctr l D d_3 yX5_readLine cX5_readLine 1 (some .boolean) [.ref (D.2.2 5 r0)] μ (pI q_4) ∧ ∀ (v_8 : Int32) (μ_7 : gMem), q_4 v_8 μ_7 → ((v_8 = 0) → q (-1 : Int32) μ_7) ∧ ((¬ v_8 = 0) → ∃ (d_11 : Nat) (q_12 : Int32 → gMem → Prop), d_11 < d ∧ Ctr l D d_11 yX5_readLineEnd cX5_readLineEnd 1 (some .boolean) [.ref (D.2.2 5 r0)] μ_7 (pI q_12) ∧ ∀ (v_16 : Int32) (μ_15 : gMem), q_12 v_16 μ_15 → ((¬ v_16 = 0) → ∀ x3_19 : Int32, x3_19 = x3 + (1 : Int32) → ∀ x4_20 : Int32, x4_20 = x4 + (-1 : Int32) → pt_X5_readText_2 l D d q Γ r0 x3_19 x4_20 μ_15) ∧ ((v_16 = 0) → q (-1 : Int32) μ_15))))) : pt_X5_readText_2 l D d q Γ r0 x3 x4 μ := by
  unfold pt_X5_readText_2
  refine g_iload dX5_readText_59 rfl ?_
  refine g_if_le (tgt := 101) dX5_readText_61 (by decide) (fun c_1 => ?_) (fun c_1 => ?_)
  · have h := h.1 c_1
    refine g_iload_n dX5_readText_101 rfl ?_
    exact g_iret dX5_readText_102 rfl rfl ⟨_, rfl, h⟩
  · have h := h.2 c_1
    refine g_aload_n dX5_readText_64 rfl ?_
    refine g_gfR fl_5_29 rfl hr0 dX5_readText_65 ?_
    refine g_gfI fi_5_48 (by decide) dX5_readText_68 ?_
    refine g_bipush (36 : Int32) dX5_readText_71 rfl ?_
    refine g_icmp_eq (tgt := 101) dX5_readText_73 (by decide) (fun c_2 => ?_) (fun c_2 => ?_)
    · have h := h.1 c_2
      refine g_iload_n dX5_readText_101 rfl ?_
      exact g_iret dX5_readText_102 rfl rfl ⟨_, rfl, h⟩
    · have h := h.2 c_2
      refine g_aload_n dX5_readText_76 rfl ?_
      obtain ⟨d_3, q_4, hd_5, hc_6, h⟩ := h
      refine g_cV ca_X5_51 ob_5 hc_6 hd_5 (by decide) hr0 rfl rfl (by first | exact Nat.le_of_ble_eq_true rfl | decide) dX5_readText_77 (kI (fun v_8 μ_7 hq_9 => ?_))
      have h := h v_8 μ_7 hq_9
      refine g_if_eq (tgt := 90) dX5_readText_80 (by decide) (fun c_10 => ?_) (fun c_10 => ?_)
      · have h := h.1 c_10
        refine g_iconst (-1 : Int32) dX5_readText_90 rfl ?_
        exact g_iret dX5_readText_91 rfl rfl ⟨_, rfl, h⟩
      · have h := h.2 c_10
        refine g_aload_n dX5_readText_83 rfl ?_
        obtain ⟨d_11, q_12, hd_13, hc_14, h⟩ := h
        refine g_cV ca_X5_55 ob_5 hc_14 hd_13 (by decide) hr0 rfl rfl (by first | exact Nat.le_of_ble_eq_true rfl | decide) dX5_readText_84 (kI (fun v_16 μ_15 hq_17 => ?_))
        have h := h v_16 μ_15 hq_17
        refine g_if_ne (tgt := 92) dX5_readText_87 (by decide) (fun c_18 => ?_) (fun c_18 => ?_)
        · have h := h.1 c_18
          refine g_iinc dX5_readText_92 rfl (by decide) (fun x3_19 ex3_19 => g_sub (lv' := [(0, .ref (D.2.2 5 r0)), (3, .int x3_19), (4, .int x4)]) [1, 0, 2] rfl ?_)
          have h := h x3_19 ex3_19
          refine g_iinc dX5_readText_95 rfl (by decide) (fun x4_20 ex4_20 => g_sub (lv' := [(0, .ref (D.2.2 5 r0)), (3, .int x3_19), (4, .int x4_20)]) [1, 2, 0] rfl ?_)
          have h := h x4_20 ex4_20
          refine g_goto (tgt := 59) dX5_readText_98 (by decide) ?_
          exact g_sub [0, 1, 2] rfl h
        · have h := h.2 c_18
          refine g_iconst (-1 : Int32) dX5_readText_90 rfl ?_
          exact g_iret dX5_readText_91 rfl rfl ⟨_, rfl, h⟩
theorem en_X5_readText {l : Launch} {D : gD} {d : Nat} {q : Int32 → gMem → Prop} {r0 : Nat} {r1 : Nat} {x2 : Int32} {μ : gMem} (h : ∀ Γ : gC, pt_X5_readText_0 l D d q Γ r0 r1 x2 μ) : Ctr l D d yX5_readText cX5_readText 5 (some .int) [.ref (D.2.2 5 r0), .ref (D.2.2 7 r1), .int x2] μ (pI q) :=
  Ctr_of rfl (by decide) (Nat.le_of_ble_eq_true rfl) (fun Γ => g_sub [0, 1, 2] rfl (h Γ))
def pt_X5_fail_0 (l : Launch) (D : gD) (d : Nat) (q : Int32 → gMem → Prop) (Γ : gC) (r0 : Nat) (x1 : Int32) (μ : gMem) : Prop := G l D RX5 cX5_fail 2 (some .boolean) d (pI q) Γ 0 [(0, .ref (D.2.2 5 r0)), (1, .int x1)] [] μ
set_option maxRecDepth 20000 in
set_option maxHeartbeats 4000000 in
theorem bl_X5_fail_0 {l : Launch} {D : gD} {d : Nat} {q : Int32 → gMem → Prop} {Γ : gC} {r0 : Nat} {x1 : Int32} {μ : gMem} (hr0 : r0 < 1) (h : ∀ μ_1 : gMem, μ_1 = gsI μ 5 r0 5 x1 → ∀ μ_2 : gMem, μ_2 = gsI μ_1 5 r0 6 (μ_1.1 6 0 6) → q (0 : Int32) μ_2) : pt_X5_fail_0 l D d q Γ r0 x1 μ := by
  unfold pt_X5_fail_0
  refine g_aload_n dX5_fail_0 rfl ?_
  refine g_iload_n dX5_fail_1 rfl ?_
  refine g_pfI fi_5_22 hr0 rfl rfl dX5_fail_2 ?_
  obtain ⟨μ_1, eμ_1⟩ : ∃ z : gMem, z = gsI μ 5 r0 5 x1 := ⟨_, rfl⟩
  have h := h μ_1 eμ_1
  refine g_mem eμ_1.symm ?_
  refine g_aload_n dX5_fail_5 rfl ?_
  refine g_aload_n dX5_fail_6 rfl ?_
  refine g_gfR fl_5_29 rfl hr0 dX5_fail_7 ?_
  refine g_gfI fi_5_58 (by decide) dX5_fail_10 ?_
  refine g_pfI fi_5_26 hr0 rfl rfl dX5_fail_13 ?_
  obtain ⟨μ_2, eμ_2⟩ : ∃ z : gMem, z = gsI μ_1 5 r0 6 (μ_1.1 6 0 6) := ⟨_, rfl⟩
  have h := h μ_2 eμ_2
  refine g_mem eμ_2.symm ?_
  refine g_iconst (0 : Int32) dX5_fail_16 rfl ?_
  exact g_iret dX5_fail_17 rfl rfl ⟨_, rfl, h⟩
theorem en_X5_fail {l : Launch} {D : gD} {d : Nat} {q : Int32 → gMem → Prop} {r0 : Nat} {x1 : Int32} {μ : gMem} (h : ∀ Γ : gC, pt_X5_fail_0 l D d q Γ r0 x1 μ) : Ctr l D d yX5_fail cX5_fail 2 (some .boolean) [.ref (D.2.2 5 r0), .int x1] μ (pI q) :=
  Ctr_of rfl (by decide) (Nat.le_of_ble_eq_true rfl) (fun Γ => g_sub [0, 1] rfl (h Γ))
def pt_X5_readLineEnd_0 (l : Launch) (D : gD) (d : Nat) (q : Int32 → gMem → Prop) (Γ : gC) (r0 : Nat) (μ : gMem) : Prop := G l D RX5 cX5_readLineEnd 1 (some .boolean) d (pI q) Γ 0 [(0, .ref (D.2.2 5 r0))] [] μ
set_option maxRecDepth 20000 in
set_option maxHeartbeats 4000000 in
theorem bl_X5_readLineEnd_0 {l : Launch} {D : gD} {d : Nat} {q : Int32 → gMem → Prop} {Γ : gC} {r0 : Nat} {μ : gMem} (hr0 : r0 < 1) (h : (((μ.1 6 0 5) = (33 : Int32)) → ∃ (d_2 : Nat) (q_3 : gMem → Prop), d_2 < d ∧ Ctr l D d_2 yX6_next cX6_next 1 none [.ref (D.2.2 6 0)] μ (pV q_3) ∧ ∀ (μ_6 : gMem), q_3 μ_6 → q (1 : Int32) μ_6) ∧ ((¬ (μ.1 6 0 5) = (33 : Int32)) → ∃ (d_9 : Nat) (q_10 : Int32 → gMem → Prop), d_9 < d ∧ Ctr l D d_9 yX5_fail cX5_fail 2 (some .boolean) [.ref (D.2.2 5 r0), .int (1 : Int32)] μ (pI q_10) ∧ ∀ (v_14 : Int32) (μ_13 : gMem), q_10 v_14 μ_13 → (v_14 = 0 ∨ v_14 = 1) ∧ q v_14 μ_13)) : pt_X5_readLineEnd_0 l D d q Γ r0 μ := by
  unfold pt_X5_readLineEnd_0
  refine g_aload_n dX5_readLineEnd_0 rfl ?_
  refine g_gfR fl_5_29 rfl hr0 dX5_readLineEnd_1 ?_
  refine g_gfI fi_5_48 (by decide) dX5_readLineEnd_4 ?_
  refine g_bipush (33 : Int32) dX5_readLineEnd_7 rfl ?_
  refine g_icmp_eq (tgt := 18) dX5_readLineEnd_9 (by decide) (fun c_1 => ?_) (fun c_1 => ?_)
  · have h := h.1 c_1
    refine g_aload_n dX5_readLineEnd_18 rfl ?_
    refine g_gfR fl_5_29 rfl hr0 dX5_readLineEnd_19 ?_
    obtain ⟨d_2, q_3, hd_4, hc_5, h⟩ := h
    refine g_cV ca_X5_63 ob_6 hc_5 hd_4 (by decide) (by decide) rfl rfl (by first | exact Nat.le_of_ble_eq_true rfl | decide) dX5_readLineEnd_22 (kV (fun μ_6 hq_8 => ?_))
    have h := h μ_6 hq_8
    refine g_iconst (1 : Int32) dX5_readLineEnd_25 rfl ?_
    exact g_iret dX5_readLineEnd_26 rfl rfl ⟨_, rfl, h⟩
  · have h := h.2 c_1
    refine g_aload_n dX5_readLineEnd_12 rfl ?_
    refine g_iconst (1 : Int32) dX5_readLineEnd_13 rfl ?_
    obtain ⟨d_9, q_10, hd_11, hc_12, h⟩ := h
    refine g_cV ca_X5_59 ob_5 hc_12 hd_11 (by decide) hr0 rfl rfl (by first | exact Nat.le_of_ble_eq_true rfl | decide) dX5_readLineEnd_14 (kI (fun v_14 μ_13 hq_15 => ?_))
    have h := h v_14 μ_13 hq_15
    obtain ⟨hz9, h⟩ := h
    exact g_iret dX5_readLineEnd_17 rfl (nar_z hz9).1 ⟨_, rfl, h⟩
theorem en_X5_readLineEnd {l : Launch} {D : gD} {d : Nat} {q : Int32 → gMem → Prop} {r0 : Nat} {μ : gMem} (h : ∀ Γ : gC, pt_X5_readLineEnd_0 l D d q Γ r0 μ) : Ctr l D d yX5_readLineEnd cX5_readLineEnd 1 (some .boolean) [.ref (D.2.2 5 r0)] μ (pI q) :=
  Ctr_of rfl (by decide) (Nat.le_of_ble_eq_true rfl) (fun Γ => g_sub [0] rfl (h Γ))
def pt_X5_readLine_0 (l : Launch) (D : gD) (d : Nat) (q : Int32 → gMem → Prop) (Γ : gC) (r0 : Nat) (μ : gMem) : Prop := G l D RX5 cX5_readLine 1 (some .boolean) d (pI q) Γ 0 [(0, .ref (D.2.2 5 r0))] [] μ
set_option maxRecDepth 20000 in
set_option maxHeartbeats 4000000 in
theorem bl_X5_readLine_0 {l : Launch} {D : gD} {d : Nat} {q : Int32 → gMem → Prop} {Γ : gC} {r0 : Nat} {μ : gMem} (hr0 : r0 < 1) (h : (μ.1 6 0 5 = (0 : Int32) → ∃ (d_2 : Nat) (q_3 : Int32 → gMem → Prop), d_2 < d ∧ Ctr l D d_2 yX5_readMan cX5_readMan 2 (some .boolean) [.ref (D.2.2 5 r0)] μ (pI q_3) ∧ ∀ (v_7 : Int32) (μ_6 : gMem), q_3 v_7 μ_6 → (v_7 = 0 ∨ v_7 = 1) ∧ q v_7 μ_6) ∧ (μ.1 6 0 5 = (1 : Int32) → ∃ (d_9 : Nat) (q_10 : Int32 → gMem → Prop), d_9 < d ∧ Ctr l D d_9 yX5_readDeed cX5_readDeed 2 (some .boolean) [.ref (D.2.2 5 r0)] μ (pI q_10) ∧ ∀ (v_14 : Int32) (μ_13 : gMem), q_10 v_14 μ_13 → (v_14 = 0 ∨ v_14 = 1) ∧ q v_14 μ_13) ∧ (μ.1 6 0 5 = (2 : Int32) → ∃ (d_16 : Nat) (q_17 : Int32 → gMem → Prop), d_16 < d ∧ Ctr l D d_16 yX5_readPlan cX5_readPlan 3 (some .boolean) [.ref (D.2.2 5 r0)] μ (pI q_17) ∧ ∀ (v_21 : Int32) (μ_20 : gMem), q_17 v_21 μ_20 → (v_21 = 0 ∨ v_21 = 1) ∧ q v_21 μ_20) ∧ (μ.1 6 0 5 = (3 : Int32) → ∃ (d_23 : Nat) (q_24 : Int32 → gMem → Prop), d_23 < d ∧ Ctr l D d_23 yX5_readBet cX5_readBet 1 (some .boolean) [.ref (D.2.2 5 r0)] μ (pI q_24) ∧ ∀ (v_28 : Int32) (μ_27 : gMem), q_24 v_28 μ_27 → (v_28 = 0 ∨ v_28 = 1) ∧ q v_28 μ_27) ∧ (μ.1 6 0 5 = (4 : Int32) → ∃ (d_30 : Nat) (q_31 : Int32 → gMem → Prop), d_30 < d ∧ Ctr l D d_30 yX5_readPay cX5_readPay 1 (some .boolean) [.ref (D.2.2 5 r0)] μ (pI q_31) ∧ ∀ (v_35 : Int32) (μ_34 : gMem), q_31 v_35 μ_34 → (v_35 = 0 ∨ v_35 = 1) ∧ q v_35 μ_34) ∧ (μ.1 6 0 5 = (5 : Int32) → ∃ (d_37 : Nat) (q_38 : Int32 → gMem → Prop), d_37 < d ∧ Ctr l D d_37 yX5_readRain cX5_readRain 1 (some .boolean) [.ref (D.2.2 5 r0)] μ (pI q_38) ∧ ∀ (v_42 : Int32) (μ_41 : gMem), q_38 v_42 μ_41 → (v_42 = 0 ∨ v_42 = 1) ∧ q v_42 μ_41) ∧ (μ.1 6 0 5 = (6 : Int32) → ∃ (d_44 : Nat) (q_45 : Int32 → gMem → Prop), d_44 < d ∧ Ctr l D d_44 yX5_readSeed cX5_readSeed 1 (some .boolean) [.ref (D.2.2 5 r0)] μ (pI q_45) ∧ ∀ (v_49 : Int32) (μ_48 : gMem), q_45 v_49 μ_48 → (v_49 = 0 ∨ v_49 = 1) ∧ q v_49 μ_48) ∧ (μ.1 6 0 5 = (7 : Int32) → ∃ (d_51 : Nat) (q_52 : Int32 → gMem → Prop), d_51 < d ∧ Ctr l D d_51 yX5_readLaw cX5_readLaw 3 (some .boolean) [.ref (D.2.2 5 r0)] μ (pI q_52) ∧ ∀ (v_56 : Int32) (μ_55 : gMem), q_52 v_56 μ_55 → (v_56 = 0 ∨ v_56 = 1) ∧ q v_56 μ_55) ∧ ((¬ μ.1 6 0 5 = (0 : Int32) ∧ ¬ μ.1 6 0 5 = (1 : Int32) ∧ ¬ μ.1 6 0 5 = (2 : Int32) ∧ ¬ μ.1 6 0 5 = (3 : Int32) ∧ ¬ μ.1 6 0 5 = (4 : Int32) ∧ ¬ μ.1 6 0 5 = (5 : Int32) ∧ ¬ μ.1 6 0 5 = (6 : Int32) ∧ ¬ μ.1 6 0 5 = (7 : Int32)) → ∃ (d_58 : Nat) (q_59 : Int32 → gMem → Prop), d_58 < d ∧ Ctr l D d_58 yX5_fail cX5_fail 2 (some .boolean) [.ref (D.2.2 5 r0), .int (1 : Int32)] μ (pI q_59) ∧ ∀ (v_63 : Int32) (μ_62 : gMem), q_59 v_63 μ_62 → (v_63 = 0 ∨ v_63 = 1) ∧ q v_63 μ_62)) : pt_X5_readLine_0 l D d q Γ r0 μ := by
  unfold pt_X5_readLine_0
  refine g_aload_n dX5_readLine_0 rfl ?_
  refine g_gfR fl_5_29 rfl hr0 dX5_readLine_1 ?_
  refine g_gfI fi_5_48 (by decide) dX5_readLine_4 ?_
  by_cases c_1_0 : μ.1 6 0 5 = (0 : Int32)
  · refine g_tableIn (off := 45) (tgt := 52) dX5_readLine_7 (by rw [c_1_0]; decide) (by rw [c_1_0]; decide) (by rw [c_1_0]; rfl) (by decide) ?_
    have h := h.1 c_1_0
    refine g_aload_n dX5_readLine_52 rfl ?_
    obtain ⟨d_2, q_3, hd_4, hc_5, h⟩ := h
    refine g_cV ca_X5_66 ob_5 hc_5 hd_4 (by decide) hr0 rfl rfl (by first | exact Nat.le_of_ble_eq_true rfl | decide) dX5_readLine_53 (kI (fun v_7 μ_6 hq_8 => ?_))
    have h := h v_7 μ_6 hq_8
    obtain ⟨hz9, h⟩ := h
    exact g_iret dX5_readLine_56 rfl (nar_z hz9).1 ⟨_, rfl, h⟩
  by_cases c_1_1 : μ.1 6 0 5 = (1 : Int32)
  · refine g_tableIn (off := 50) (tgt := 57) dX5_readLine_7 (by rw [c_1_1]; decide) (by rw [c_1_1]; decide) (by rw [c_1_1]; rfl) (by decide) ?_
    have h := h.2.1 c_1_1
    refine g_aload_n dX5_readLine_57 rfl ?_
    obtain ⟨d_9, q_10, hd_11, hc_12, h⟩ := h
    refine g_cV ca_X5_69 ob_5 hc_12 hd_11 (by decide) hr0 rfl rfl (by first | exact Nat.le_of_ble_eq_true rfl | decide) dX5_readLine_58 (kI (fun v_14 μ_13 hq_15 => ?_))
    have h := h v_14 μ_13 hq_15
    obtain ⟨hz9, h⟩ := h
    exact g_iret dX5_readLine_61 rfl (nar_z hz9).1 ⟨_, rfl, h⟩
  by_cases c_1_2 : μ.1 6 0 5 = (2 : Int32)
  · refine g_tableIn (off := 55) (tgt := 62) dX5_readLine_7 (by rw [c_1_2]; decide) (by rw [c_1_2]; decide) (by rw [c_1_2]; rfl) (by decide) ?_
    have h := h.2.2.1 c_1_2
    refine g_aload_n dX5_readLine_62 rfl ?_
    obtain ⟨d_16, q_17, hd_18, hc_19, h⟩ := h
    refine g_cV ca_X5_72 ob_5 hc_19 hd_18 (by decide) hr0 rfl rfl (by first | exact Nat.le_of_ble_eq_true rfl | decide) dX5_readLine_63 (kI (fun v_21 μ_20 hq_22 => ?_))
    have h := h v_21 μ_20 hq_22
    obtain ⟨hz9, h⟩ := h
    exact g_iret dX5_readLine_66 rfl (nar_z hz9).1 ⟨_, rfl, h⟩
  by_cases c_1_3 : μ.1 6 0 5 = (3 : Int32)
  · refine g_tableIn (off := 60) (tgt := 67) dX5_readLine_7 (by rw [c_1_3]; decide) (by rw [c_1_3]; decide) (by rw [c_1_3]; rfl) (by decide) ?_
    have h := h.2.2.2.1 c_1_3
    refine g_aload_n dX5_readLine_67 rfl ?_
    obtain ⟨d_23, q_24, hd_25, hc_26, h⟩ := h
    refine g_cV ca_X5_75 ob_5 hc_26 hd_25 (by decide) hr0 rfl rfl (by first | exact Nat.le_of_ble_eq_true rfl | decide) dX5_readLine_68 (kI (fun v_28 μ_27 hq_29 => ?_))
    have h := h v_28 μ_27 hq_29
    obtain ⟨hz9, h⟩ := h
    exact g_iret dX5_readLine_71 rfl (nar_z hz9).1 ⟨_, rfl, h⟩
  by_cases c_1_4 : μ.1 6 0 5 = (4 : Int32)
  · refine g_tableIn (off := 65) (tgt := 72) dX5_readLine_7 (by rw [c_1_4]; decide) (by rw [c_1_4]; decide) (by rw [c_1_4]; rfl) (by decide) ?_
    have h := h.2.2.2.2.1 c_1_4
    refine g_aload_n dX5_readLine_72 rfl ?_
    obtain ⟨d_30, q_31, hd_32, hc_33, h⟩ := h
    refine g_cV ca_X5_78 ob_5 hc_33 hd_32 (by decide) hr0 rfl rfl (by first | exact Nat.le_of_ble_eq_true rfl | decide) dX5_readLine_73 (kI (fun v_35 μ_34 hq_36 => ?_))
    have h := h v_35 μ_34 hq_36
    obtain ⟨hz9, h⟩ := h
    exact g_iret dX5_readLine_76 rfl (nar_z hz9).1 ⟨_, rfl, h⟩
  by_cases c_1_5 : μ.1 6 0 5 = (5 : Int32)
  · refine g_tableIn (off := 70) (tgt := 77) dX5_readLine_7 (by rw [c_1_5]; decide) (by rw [c_1_5]; decide) (by rw [c_1_5]; rfl) (by decide) ?_
    have h := h.2.2.2.2.2.1 c_1_5
    refine g_aload_n dX5_readLine_77 rfl ?_
    obtain ⟨d_37, q_38, hd_39, hc_40, h⟩ := h
    refine g_cV ca_X5_81 ob_5 hc_40 hd_39 (by decide) hr0 rfl rfl (by first | exact Nat.le_of_ble_eq_true rfl | decide) dX5_readLine_78 (kI (fun v_42 μ_41 hq_43 => ?_))
    have h := h v_42 μ_41 hq_43
    obtain ⟨hz9, h⟩ := h
    exact g_iret dX5_readLine_81 rfl (nar_z hz9).1 ⟨_, rfl, h⟩
  by_cases c_1_6 : μ.1 6 0 5 = (6 : Int32)
  · refine g_tableIn (off := 75) (tgt := 82) dX5_readLine_7 (by rw [c_1_6]; decide) (by rw [c_1_6]; decide) (by rw [c_1_6]; rfl) (by decide) ?_
    have h := h.2.2.2.2.2.2.1 c_1_6
    refine g_aload_n dX5_readLine_82 rfl ?_
    obtain ⟨d_44, q_45, hd_46, hc_47, h⟩ := h
    refine g_cV ca_X5_84 ob_5 hc_47 hd_46 (by decide) hr0 rfl rfl (by first | exact Nat.le_of_ble_eq_true rfl | decide) dX5_readLine_83 (kI (fun v_49 μ_48 hq_50 => ?_))
    have h := h v_49 μ_48 hq_50
    obtain ⟨hz9, h⟩ := h
    exact g_iret dX5_readLine_86 rfl (nar_z hz9).1 ⟨_, rfl, h⟩
  by_cases c_1_7 : μ.1 6 0 5 = (7 : Int32)
  · refine g_tableIn (off := 80) (tgt := 87) dX5_readLine_7 (by rw [c_1_7]; decide) (by rw [c_1_7]; decide) (by rw [c_1_7]; rfl) (by decide) ?_
    have h := h.2.2.2.2.2.2.2.1 c_1_7
    refine g_aload_n dX5_readLine_87 rfl ?_
    obtain ⟨d_51, q_52, hd_53, hc_54, h⟩ := h
    refine g_cV ca_X5_87 ob_5 hc_54 hd_53 (by decide) hr0 rfl rfl (by first | exact Nat.le_of_ble_eq_true rfl | decide) dX5_readLine_88 (kI (fun v_56 μ_55 hq_57 => ?_))
    have h := h v_56 μ_55 hq_57
    obtain ⟨hz9, h⟩ := h
    exact g_iret dX5_readLine_91 rfl (nar_z hz9).1 ⟨_, rfl, h⟩
  have c_1_o : ((μ.1 6 0 5)).toInt < 0 ∨ 7 < ((μ.1 6 0 5)).toInt := by
    have := lv_neT c_1_0 (a := 0) rfl
    have := lv_neT c_1_1 (a := 1) rfl
    have := lv_neT c_1_2 (a := 2) rfl
    have := lv_neT c_1_3 (a := 3) rfl
    have := lv_neT c_1_4 (a := 4) rfl
    have := lv_neT c_1_5 (a := 5) rfl
    have := lv_neT c_1_6 (a := 6) rfl
    have := lv_neT c_1_7 (a := 7) rfl
    omega
  refine g_tableOut (tgt := 92) dX5_readLine_7 c_1_o (by decide) ?_
  have h := h.2.2.2.2.2.2.2.2 ⟨c_1_0, c_1_1, c_1_2, c_1_3, c_1_4, c_1_5, c_1_6, c_1_7⟩
  refine g_aload_n dX5_readLine_92 rfl ?_
  refine g_iconst (1 : Int32) dX5_readLine_93 rfl ?_
  obtain ⟨d_58, q_59, hd_60, hc_61, h⟩ := h
  refine g_cV ca_X5_59 ob_5 hc_61 hd_60 (by decide) hr0 rfl rfl (by first | exact Nat.le_of_ble_eq_true rfl | decide) dX5_readLine_94 (kI (fun v_63 μ_62 hq_64 => ?_))
  have h := h v_63 μ_62 hq_64
  obtain ⟨hz9, h⟩ := h
  exact g_iret dX5_readLine_97 rfl (nar_z hz9).1 ⟨_, rfl, h⟩
theorem en_X5_readLine {l : Launch} {D : gD} {d : Nat} {q : Int32 → gMem → Prop} {r0 : Nat} {μ : gMem} (h : ∀ Γ : gC, pt_X5_readLine_0 l D d q Γ r0 μ) : Ctr l D d yX5_readLine cX5_readLine 1 (some .boolean) [.ref (D.2.2 5 r0)] μ (pI q) :=
  Ctr_of rfl (by decide) (Nat.le_of_ble_eq_true rfl) (fun Γ => g_sub [0] rfl (h Γ))
def pt_X5_readMan_0 (l : Launch) (D : gD) (d : Nat) (q : Int32 → gMem → Prop) (Γ : gC) (r0 : Nat) (μ : gMem) : Prop := G l D RX5 cX5_readMan 2 (some .boolean) d (pI q) Γ 0 [(0, .ref (D.2.2 5 r0))] [] μ
set_option maxRecDepth 20000 in
set_option maxHeartbeats 4000000 in
theorem bl_X5_readMan_0 {l : Launch} {D : gD} {d : Nat} {q : Int32 → gMem → Prop} {Γ : gC} {r0 : Nat} {μ : gMem} (hr0 : r0 < 1) (h : (μ.2.2 2 < 2) ∧ (∀ x1_2 : Int32, x1_2 = μ.1 7 (μ.2.2 2) 0 → ((x1_2 < (5 : Int32)) → ∃ (d_4 : Nat) (q_5 : gMem → Prop), d_4 < d ∧ Ctr l D d_4 yX6_next cX6_next 1 none [.ref (D.2.2 6 0)] μ (pV q_5) ∧ ∀ (μ_8 : gMem), q_5 μ_8 → (μ_8.2.2 2 < 2) ∧ (∃ (d_12 : Nat) (q_13 : Int32 → gMem → Prop), d_12 < d ∧ Ctr l D d_12 yX5_readNewName cX5_readNewName 3 (some .boolean) [.ref (D.2.2 5 r0), .ref (D.2.2 513 (μ_8.2.2 2)), .int x1_2] μ_8 (pI q_13) ∧ ∀ (v_17 : Int32) (μ_16 : gMem), q_13 v_17 μ_16 → ((v_17 = 0) → q (0 : Int32) μ_16) ∧ ((¬ v_17 = 0) → ∃ (d_20 : Nat) (q_21 : Int32 → gMem → Prop), d_20 < d ∧ Ctr l D d_20 yX5_readNumber cX5_readNumber 3 (some .boolean) [.ref (D.2.2 5 r0), .int (0 : Int32), .int (99 : Int32)] μ_16 (pI q_21) ∧ ∀ (v_25 : Int32) (μ_24 : gMem), q_21 v_25 μ_24 → ((¬ v_25 = 0) → (μ_24.2.2 2 < 2) ∧ (∃ j_29 : Nat, j_29 < 5 ∧ x1_2 = nI j_29 ∧ (∀ μ_30 : gMem, μ_30 = gsI μ_24 514 (μ_24.2.2 2) j_29 (μ_24.1 5 r0 4) → ∃ (d_31 : Nat) (q_32 : Int32 → gMem → Prop), d_31 < d ∧ Ctr l D d_31 yX5_readNumber cX5_readNumber 3 (some .boolean) [.ref (D.2.2 5 r0), .int (0 : Int32), .int (99 : Int32)] μ_30 (pI q_32) ∧ ∀ (v_36 : Int32) (μ_35 : gMem), q_32 v_36 μ_35 → ((¬ v_36 = 0) → (μ_35.2.2 2 < 2) ∧ (∃ j_40 : Nat, j_40 < 5 ∧ x1_2 = nI j_40 ∧ (∀ μ_41 : gMem, μ_41 = gsI μ_35 515 (μ_35.2.2 2) j_40 (μ_35.1 5 r0 4) → ∃ (d_42 : Nat) (q_43 : Int32 → gMem → Prop), d_42 < d ∧ Ctr l D d_42 yX5_readNumber cX5_readNumber 3 (some .boolean) [.ref (D.2.2 5 r0), .int (0 : Int32), .int (99 : Int32)] μ_41 (pI q_43) ∧ ∀ (v_47 : Int32) (μ_46 : gMem), q_43 v_47 μ_46 → ((¬ v_47 = 0) → (μ_46.2.2 2 < 2) ∧ (∃ j_51 : Nat, j_51 < 5 ∧ x1_2 = nI j_51 ∧ (∀ μ_52 : gMem, μ_52 = gsI μ_46 516 (μ_46.2.2 2) j_51 (μ_46.1 5 r0 4) → (μ_52.2.2 2 < 2) ∧ (∀ μ_54 : gMem, μ_54 = gsI μ_52 7 (μ_52.2.2 2) 0 ((μ_52.1 7 (μ_52.2.2 2) 0) + (1 : Int32)) → q (1 : Int32) μ_54)))) ∧ ((v_47 = 0) → q (0 : Int32) μ_46)))) ∧ ((v_36 = 0) → q (0 : Int32) μ_35)))) ∧ ((v_25 = 0) → q (0 : Int32) μ_24)))) ∧ ((¬ x1_2 < (5 : Int32)) → ∃ (d_55 : Nat) (q_56 : Int32 → gMem → Prop), d_55 < d ∧ Ctr l D d_55 yX5_fail cX5_fail 2 (some .boolean) [.ref (D.2.2 5 r0), .int (2 : Int32)] μ (pI q_56) ∧ ∀ (v_60 : Int32) (μ_59 : gMem), q_56 v_60 μ_59 → (v_60 = 0 ∨ v_60 = 1) ∧ q v_60 μ_59))) : pt_X5_readMan_0 l D d q Γ r0 μ := by
  unfold pt_X5_readMan_0
  refine g_aload_n dX5_readMan_0 rfl ?_
  obtain ⟨hR_1, h⟩ := h
  refine g_gfR5 fl_5_33 (by assumption) hr0 dX5_readMan_1 ?_
  refine g_gfI fi_5_90 hR_1 dX5_readMan_4 ?_
  refine g_istore_n dX5_readMan_7 (by decide) (fun x1_2 ex1_2 => g_sub (lv' := [(0, .ref (D.2.2 5 r0)), (1, .int x1_2)]) [1, 0] rfl ?_)
  have h := h x1_2 ex1_2
  refine g_iload_n dX5_readMan_8 rfl ?_
  refine g_iconst (5 : Int32) dX5_readMan_9 rfl ?_
  refine g_icmp_lt (tgt := 19) dX5_readMan_10 (by decide) (fun c_3 => ?_) (fun c_3 => ?_)
  · have h := h.1 c_3
    refine g_aload_n dX5_readMan_19 rfl ?_
    refine g_gfR fl_5_29 rfl hr0 dX5_readMan_20 ?_
    obtain ⟨d_4, q_5, hd_6, hc_7, h⟩ := h
    refine g_cV ca_X5_63 ob_6 hc_7 hd_6 (by decide) (by decide) rfl rfl (by first | exact Nat.le_of_ble_eq_true rfl | decide) dX5_readMan_23 (kV (fun μ_8 hq_10 => ?_))
    have h := h μ_8 hq_10
    refine g_aload_n dX5_readMan_26 rfl ?_
    refine g_aload_n dX5_readMan_27 rfl ?_
    obtain ⟨hR_11, h⟩ := h
    refine g_gfR5 fl_5_33 (by assumption) hr0 dX5_readMan_28 ?_
    refine g_gfR fl_5_93 rfl hR_11 dX5_readMan_31 ?_
    refine g_iload_n dX5_readMan_34 rfl ?_
    obtain ⟨d_12, q_13, hd_14, hc_15, h⟩ := h
    refine g_cV ca_X5_97 ob_5 hc_15 hd_14 (by decide) hr0 rfl rfl (by first | exact Nat.le_of_ble_eq_true rfl | decide) dX5_readMan_35 (kI (fun v_17 μ_16 hq_18 => ?_))
    have h := h v_17 μ_16 hq_18
    refine g_if_eq (tgt := 51) dX5_readMan_38 (by decide) (fun c_19 => ?_) (fun c_19 => ?_)
    · have h := h.1 c_19
      refine g_iconst (0 : Int32) dX5_readMan_51 rfl ?_
      exact g_iret dX5_readMan_52 rfl rfl ⟨_, rfl, h⟩
    · have h := h.2 c_19
      refine g_aload_n dX5_readMan_41 rfl ?_
      refine g_iconst (0 : Int32) dX5_readMan_42 rfl ?_
      refine g_bipush (99 : Int32) dX5_readMan_43 rfl ?_
      obtain ⟨d_20, q_21, hd_22, hc_23, h⟩ := h
      refine g_cV ca_X5_101 ob_5 hc_23 hd_22 (by decide) hr0 rfl rfl (by first | exact Nat.le_of_ble_eq_true rfl | decide) dX5_readMan_45 (kI (fun v_25 μ_24 hq_26 => ?_))
      have h := h v_25 μ_24 hq_26
      refine g_if_ne (tgt := 53) dX5_readMan_48 (by decide) (fun c_27 => ?_) (fun c_27 => ?_)
      · have h := h.1 c_27
        refine g_aload_n dX5_readMan_53 rfl ?_
        obtain ⟨hR_28, h⟩ := h
        refine g_gfR5 fl_5_33 (by assumption) hr0 dX5_readMan_54 ?_
        refine g_gfR fl_5_105 rfl hR_28 dX5_readMan_57 ?_
        refine g_iload_n dX5_readMan_60 rfl ?_
        refine g_aload_n dX5_readMan_61 rfl ?_
        refine g_gfI fi_5_108 hr0 dX5_readMan_62 ?_
        obtain ⟨j_29, hj_29, ej_29, h⟩ := h
        refine g_iast j_29 hR_28 rfl hj_29 (by decide) ej_29 dX5_readMan_65 ?_
        obtain ⟨μ_30, eμ_30⟩ : ∃ z : gMem, z = gsI μ_24 514 (μ_24.2.2 2) j_29 (μ_24.1 5 r0 4) := ⟨_, rfl⟩
        have h := h μ_30 eμ_30
        refine g_mem eμ_30.symm ?_
        refine g_aload_n dX5_readMan_66 rfl ?_
        refine g_iconst (0 : Int32) dX5_readMan_67 rfl ?_
        refine g_bipush (99 : Int32) dX5_readMan_68 rfl ?_
        obtain ⟨d_31, q_32, hd_33, hc_34, h⟩ := h
        refine g_cV ca_X5_101 ob_5 hc_34 hd_33 (by decide) hr0 rfl rfl (by first | exact Nat.le_of_ble_eq_true rfl | decide) dX5_readMan_70 (kI (fun v_36 μ_35 hq_37 => ?_))
        have h := h v_36 μ_35 hq_37
        refine g_if_ne (tgt := 78) dX5_readMan_73 (by decide) (fun c_38 => ?_) (fun c_38 => ?_)
        · have h := h.1 c_38
          refine g_aload_n dX5_readMan_78 rfl ?_
          obtain ⟨hR_39, h⟩ := h
          refine g_gfR5 fl_5_33 (by assumption) hr0 dX5_readMan_79 ?_
          refine g_gfR fl_5_111 rfl hR_39 dX5_readMan_82 ?_
          refine g_iload_n dX5_readMan_85 rfl ?_
          refine g_aload_n dX5_readMan_86 rfl ?_
          refine g_gfI fi_5_108 hr0 dX5_readMan_87 ?_
          obtain ⟨j_40, hj_40, ej_40, h⟩ := h
          refine g_iast j_40 hR_39 rfl hj_40 (by decide) ej_40 dX5_readMan_90 ?_
          obtain ⟨μ_41, eμ_41⟩ : ∃ z : gMem, z = gsI μ_35 515 (μ_35.2.2 2) j_40 (μ_35.1 5 r0 4) := ⟨_, rfl⟩
          have h := h μ_41 eμ_41
          refine g_mem eμ_41.symm ?_
          refine g_aload_n dX5_readMan_91 rfl ?_
          refine g_iconst (0 : Int32) dX5_readMan_92 rfl ?_
          refine g_bipush (99 : Int32) dX5_readMan_93 rfl ?_
          obtain ⟨d_42, q_43, hd_44, hc_45, h⟩ := h
          refine g_cV ca_X5_101 ob_5 hc_45 hd_44 (by decide) hr0 rfl rfl (by first | exact Nat.le_of_ble_eq_true rfl | decide) dX5_readMan_95 (kI (fun v_47 μ_46 hq_48 => ?_))
          have h := h v_47 μ_46 hq_48
          refine g_if_ne (tgt := 103) dX5_readMan_98 (by decide) (fun c_49 => ?_) (fun c_49 => ?_)
          · have h := h.1 c_49
            refine g_aload_n dX5_readMan_103 rfl ?_
            obtain ⟨hR_50, h⟩ := h
            refine g_gfR5 fl_5_33 (by assumption) hr0 dX5_readMan_104 ?_
            refine g_gfR fl_5_114 rfl hR_50 dX5_readMan_107 ?_
            refine g_iload_n dX5_readMan_110 rfl ?_
            refine g_aload_n dX5_readMan_111 rfl ?_
            refine g_gfI fi_5_108 hr0 dX5_readMan_112 ?_
            obtain ⟨j_51, hj_51, ej_51, h⟩ := h
            refine g_iast j_51 hR_50 rfl hj_51 (by decide) ej_51 dX5_readMan_115 ?_
            obtain ⟨μ_52, eμ_52⟩ : ∃ z : gMem, z = gsI μ_46 516 (μ_46.2.2 2) j_51 (μ_46.1 5 r0 4) := ⟨_, rfl⟩
            have h := h μ_52 eμ_52
            refine g_mem eμ_52.symm ?_
            refine g_aload_n dX5_readMan_116 rfl ?_
            obtain ⟨hR_53, h⟩ := h
            refine g_gfR5 fl_5_33 (by assumption) hr0 dX5_readMan_117 ?_
            refine g_dup dX5_readMan_120 rfl ?_
            refine g_gfI fi_5_90 hR_53 dX5_readMan_121 ?_
            refine g_iconst (1 : Int32) dX5_readMan_124 rfl ?_
            refine g_iadd dX5_readMan_125 ?_
            refine g_pfI fi_5_90 hR_53 rfl rfl dX5_readMan_126 ?_
            obtain ⟨μ_54, eμ_54⟩ : ∃ z : gMem, z = gsI μ_52 7 (μ_52.2.2 2) 0 ((μ_52.1 7 (μ_52.2.2 2) 0) + (1 : Int32)) := ⟨_, rfl⟩
            have h := h μ_54 eμ_54
            refine g_mem eμ_54.symm ?_
            refine g_iconst (1 : Int32) dX5_readMan_129 rfl ?_
            exact g_iret dX5_readMan_130 rfl rfl ⟨_, rfl, h⟩
          · have h := h.2 c_49
            refine g_iconst (0 : Int32) dX5_readMan_101 rfl ?_
            exact g_iret dX5_readMan_102 rfl rfl ⟨_, rfl, h⟩
        · have h := h.2 c_38
          refine g_iconst (0 : Int32) dX5_readMan_76 rfl ?_
          exact g_iret dX5_readMan_77 rfl rfl ⟨_, rfl, h⟩
      · have h := h.2 c_27
        refine g_iconst (0 : Int32) dX5_readMan_51 rfl ?_
        exact g_iret dX5_readMan_52 rfl rfl ⟨_, rfl, h⟩
  · have h := h.2 c_3
    refine g_aload_n dX5_readMan_13 rfl ?_
    refine g_iconst (2 : Int32) dX5_readMan_14 rfl ?_
    obtain ⟨d_55, q_56, hd_57, hc_58, h⟩ := h
    refine g_cV ca_X5_59 ob_5 hc_58 hd_57 (by decide) hr0 rfl rfl (by first | exact Nat.le_of_ble_eq_true rfl | decide) dX5_readMan_15 (kI (fun v_60 μ_59 hq_61 => ?_))
    have h := h v_60 μ_59 hq_61
    obtain ⟨hz9, h⟩ := h
    exact g_iret dX5_readMan_18 rfl (nar_z hz9).1 ⟨_, rfl, h⟩
theorem en_X5_readMan {l : Launch} {D : gD} {d : Nat} {q : Int32 → gMem → Prop} {r0 : Nat} {μ : gMem} (h : ∀ Γ : gC, pt_X5_readMan_0 l D d q Γ r0 μ) : Ctr l D d yX5_readMan cX5_readMan 2 (some .boolean) [.ref (D.2.2 5 r0)] μ (pI q) :=
  Ctr_of rfl (by decide) (Nat.le_of_ble_eq_true rfl) (fun Γ => g_sub [0] rfl (h Γ))
def pt_X5_readDeed_0 (l : Launch) (D : gD) (d : Nat) (q : Int32 → gMem → Prop) (Γ : gC) (r0 : Nat) (μ : gMem) : Prop := G l D RX5 cX5_readDeed 2 (some .boolean) d (pI q) Γ 0 [(0, .ref (D.2.2 5 r0))] [] μ
set_option maxRecDepth 20000 in
set_option maxHeartbeats 4000000 in
theorem bl_X5_readDeed_0 {l : Launch} {D : gD} {d : Nat} {q : Int32 → gMem → Prop} {Γ : gC} {r0 : Nat} {μ : gMem} (hr0 : r0 < 1) (h : (μ.2.2 2 < 2) ∧ (∀ x1_2 : Int32, x1_2 = μ.1 7 (μ.2.2 2) 5 → ((x1_2 < (6 : Int32)) → ∃ (d_4 : Nat) (q_5 : gMem → Prop), d_4 < d ∧ Ctr l D d_4 yX6_next cX6_next 1 none [.ref (D.2.2 6 0)] μ (pV q_5) ∧ ∀ (μ_8 : gMem), q_5 μ_8 → (μ_8.2.2 2 < 2) ∧ (∃ (d_12 : Nat) (q_13 : Int32 → gMem → Prop), d_12 < d ∧ Ctr l D d_12 yX5_readNewName cX5_readNewName 3 (some .boolean) [.ref (D.2.2 5 r0), .ref (D.2.2 518 (μ_8.2.2 2)), .int x1_2] μ_8 (pI q_13) ∧ ∀ (v_17 : Int32) (μ_16 : gMem), q_13 v_17 μ_16 → ((v_17 = 0) → q (0 : Int32) μ_16) ∧ ((¬ v_17 = 0) → ∃ (d_20 : Nat) (q_21 : Int32 → gMem → Prop), d_20 < d ∧ Ctr l D d_20 yX5_readNumber cX5_readNumber 3 (some .boolean) [.ref (D.2.2 5 r0), .int (0 : Int32), .int (20 : Int32)] μ_16 (pI q_21) ∧ ∀ (v_25 : Int32) (μ_24 : gMem), q_21 v_25 μ_24 → ((¬ v_25 = 0) → (μ_24.2.2 2 < 2) ∧ (∃ j_29 : Nat, j_29 < 6 ∧ x1_2 = nI j_29 ∧ (∀ μ_30 : gMem, μ_30 = gsI μ_24 519 (μ_24.2.2 2) j_29 (μ_24.1 5 r0 4) → ∃ (d_31 : Nat) (q_32 : Int32 → gMem → Prop), d_31 < d ∧ Ctr l D d_31 yX5_readNumber cX5_readNumber 3 (some .boolean) [.ref (D.2.2 5 r0), .int (0 : Int32), .int (20 : Int32)] μ_30 (pI q_32) ∧ ∀ (v_36 : Int32) (μ_35 : gMem), q_32 v_36 μ_35 → ((¬ v_36 = 0) → (μ_35.2.2 2 < 2) ∧ (∃ j_40 : Nat, j_40 < 6 ∧ x1_2 = nI j_40 ∧ (∀ μ_41 : gMem, μ_41 = gsI μ_35 520 (μ_35.2.2 2) j_40 (μ_35.1 5 r0 4) → ∃ (d_42 : Nat) (q_43 : Int32 → gMem → Prop), d_42 < d ∧ Ctr l D d_42 yX5_readNumber cX5_readNumber 3 (some .boolean) [.ref (D.2.2 5 r0), .int (0 : Int32), .int (9 : Int32)] μ_41 (pI q_43) ∧ ∀ (v_47 : Int32) (μ_46 : gMem), q_43 v_47 μ_46 → ((¬ v_47 = 0) → (μ_46.2.2 2 < 2) ∧ (∃ j_51 : Nat, j_51 < 6 ∧ x1_2 = nI j_51 ∧ (∀ μ_52 : gMem, μ_52 = gsI μ_46 521 (μ_46.2.2 2) j_51 (μ_46.1 5 r0 4) → (μ_52.2.2 2 < 2) ∧ (∀ μ_54 : gMem, μ_54 = gsI μ_52 7 (μ_52.2.2 2) 5 ((μ_52.1 7 (μ_52.2.2 2) 5) + (1 : Int32)) → q (1 : Int32) μ_54)))) ∧ ((v_47 = 0) → q (0 : Int32) μ_46)))) ∧ ((v_36 = 0) → q (0 : Int32) μ_35)))) ∧ ((v_25 = 0) → q (0 : Int32) μ_24)))) ∧ ((¬ x1_2 < (6 : Int32)) → ∃ (d_55 : Nat) (q_56 : Int32 → gMem → Prop), d_55 < d ∧ Ctr l D d_55 yX5_fail cX5_fail 2 (some .boolean) [.ref (D.2.2 5 r0), .int (2 : Int32)] μ (pI q_56) ∧ ∀ (v_60 : Int32) (μ_59 : gMem), q_56 v_60 μ_59 → (v_60 = 0 ∨ v_60 = 1) ∧ q v_60 μ_59))) : pt_X5_readDeed_0 l D d q Γ r0 μ := by
  unfold pt_X5_readDeed_0
  refine g_aload_n dX5_readDeed_0 rfl ?_
  obtain ⟨hR_1, h⟩ := h
  refine g_gfR5 fl_5_33 (by assumption) hr0 dX5_readDeed_1 ?_
  refine g_gfI fi_5_117 hR_1 dX5_readDeed_4 ?_
  refine g_istore_n dX5_readDeed_7 (by decide) (fun x1_2 ex1_2 => g_sub (lv' := [(0, .ref (D.2.2 5 r0)), (1, .int x1_2)]) [1, 0] rfl ?_)
  have h := h x1_2 ex1_2
  refine g_iload_n dX5_readDeed_8 rfl ?_
  refine g_bipush (6 : Int32) dX5_readDeed_9 rfl ?_
  refine g_icmp_lt (tgt := 20) dX5_readDeed_11 (by decide) (fun c_3 => ?_) (fun c_3 => ?_)
  · have h := h.1 c_3
    refine g_aload_n dX5_readDeed_20 rfl ?_
    refine g_gfR fl_5_29 rfl hr0 dX5_readDeed_21 ?_
    obtain ⟨d_4, q_5, hd_6, hc_7, h⟩ := h
    refine g_cV ca_X5_63 ob_6 hc_7 hd_6 (by decide) (by decide) rfl rfl (by first | exact Nat.le_of_ble_eq_true rfl | decide) dX5_readDeed_24 (kV (fun μ_8 hq_10 => ?_))
    have h := h μ_8 hq_10
    refine g_aload_n dX5_readDeed_27 rfl ?_
    refine g_aload_n dX5_readDeed_28 rfl ?_
    obtain ⟨hR_11, h⟩ := h
    refine g_gfR5 fl_5_33 (by assumption) hr0 dX5_readDeed_29 ?_
    refine g_gfR fl_5_120 rfl hR_11 dX5_readDeed_32 ?_
    refine g_iload_n dX5_readDeed_35 rfl ?_
    obtain ⟨d_12, q_13, hd_14, hc_15, h⟩ := h
    refine g_cV ca_X5_97 ob_5 hc_15 hd_14 (by decide) hr0 rfl rfl (by first | exact Nat.le_of_ble_eq_true rfl | decide) dX5_readDeed_36 (kI (fun v_17 μ_16 hq_18 => ?_))
    have h := h v_17 μ_16 hq_18
    refine g_if_eq (tgt := 52) dX5_readDeed_39 (by decide) (fun c_19 => ?_) (fun c_19 => ?_)
    · have h := h.1 c_19
      refine g_iconst (0 : Int32) dX5_readDeed_52 rfl ?_
      exact g_iret dX5_readDeed_53 rfl rfl ⟨_, rfl, h⟩
    · have h := h.2 c_19
      refine g_aload_n dX5_readDeed_42 rfl ?_
      refine g_iconst (0 : Int32) dX5_readDeed_43 rfl ?_
      refine g_bipush (20 : Int32) dX5_readDeed_44 rfl ?_
      obtain ⟨d_20, q_21, hd_22, hc_23, h⟩ := h
      refine g_cV ca_X5_101 ob_5 hc_23 hd_22 (by decide) hr0 rfl rfl (by first | exact Nat.le_of_ble_eq_true rfl | decide) dX5_readDeed_46 (kI (fun v_25 μ_24 hq_26 => ?_))
      have h := h v_25 μ_24 hq_26
      refine g_if_ne (tgt := 54) dX5_readDeed_49 (by decide) (fun c_27 => ?_) (fun c_27 => ?_)
      · have h := h.1 c_27
        refine g_aload_n dX5_readDeed_54 rfl ?_
        obtain ⟨hR_28, h⟩ := h
        refine g_gfR5 fl_5_33 (by assumption) hr0 dX5_readDeed_55 ?_
        refine g_gfR fl_5_123 rfl hR_28 dX5_readDeed_58 ?_
        refine g_iload_n dX5_readDeed_61 rfl ?_
        refine g_aload_n dX5_readDeed_62 rfl ?_
        refine g_gfI fi_5_108 hr0 dX5_readDeed_63 ?_
        obtain ⟨j_29, hj_29, ej_29, h⟩ := h
        refine g_iast j_29 hR_28 rfl hj_29 (by decide) ej_29 dX5_readDeed_66 ?_
        obtain ⟨μ_30, eμ_30⟩ : ∃ z : gMem, z = gsI μ_24 519 (μ_24.2.2 2) j_29 (μ_24.1 5 r0 4) := ⟨_, rfl⟩
        have h := h μ_30 eμ_30
        refine g_mem eμ_30.symm ?_
        refine g_aload_n dX5_readDeed_67 rfl ?_
        refine g_iconst (0 : Int32) dX5_readDeed_68 rfl ?_
        refine g_bipush (20 : Int32) dX5_readDeed_69 rfl ?_
        obtain ⟨d_31, q_32, hd_33, hc_34, h⟩ := h
        refine g_cV ca_X5_101 ob_5 hc_34 hd_33 (by decide) hr0 rfl rfl (by first | exact Nat.le_of_ble_eq_true rfl | decide) dX5_readDeed_71 (kI (fun v_36 μ_35 hq_37 => ?_))
        have h := h v_36 μ_35 hq_37
        refine g_if_ne (tgt := 79) dX5_readDeed_74 (by decide) (fun c_38 => ?_) (fun c_38 => ?_)
        · have h := h.1 c_38
          refine g_aload_n dX5_readDeed_79 rfl ?_
          obtain ⟨hR_39, h⟩ := h
          refine g_gfR5 fl_5_33 (by assumption) hr0 dX5_readDeed_80 ?_
          refine g_gfR fl_5_126 rfl hR_39 dX5_readDeed_83 ?_
          refine g_iload_n dX5_readDeed_86 rfl ?_
          refine g_aload_n dX5_readDeed_87 rfl ?_
          refine g_gfI fi_5_108 hr0 dX5_readDeed_88 ?_
          obtain ⟨j_40, hj_40, ej_40, h⟩ := h
          refine g_iast j_40 hR_39 rfl hj_40 (by decide) ej_40 dX5_readDeed_91 ?_
          obtain ⟨μ_41, eμ_41⟩ : ∃ z : gMem, z = gsI μ_35 520 (μ_35.2.2 2) j_40 (μ_35.1 5 r0 4) := ⟨_, rfl⟩
          have h := h μ_41 eμ_41
          refine g_mem eμ_41.symm ?_
          refine g_aload_n dX5_readDeed_92 rfl ?_
          refine g_iconst (0 : Int32) dX5_readDeed_93 rfl ?_
          refine g_bipush (9 : Int32) dX5_readDeed_94 rfl ?_
          obtain ⟨d_42, q_43, hd_44, hc_45, h⟩ := h
          refine g_cV ca_X5_101 ob_5 hc_45 hd_44 (by decide) hr0 rfl rfl (by first | exact Nat.le_of_ble_eq_true rfl | decide) dX5_readDeed_96 (kI (fun v_47 μ_46 hq_48 => ?_))
          have h := h v_47 μ_46 hq_48
          refine g_if_ne (tgt := 104) dX5_readDeed_99 (by decide) (fun c_49 => ?_) (fun c_49 => ?_)
          · have h := h.1 c_49
            refine g_aload_n dX5_readDeed_104 rfl ?_
            obtain ⟨hR_50, h⟩ := h
            refine g_gfR5 fl_5_33 (by assumption) hr0 dX5_readDeed_105 ?_
            refine g_gfR fl_5_129 rfl hR_50 dX5_readDeed_108 ?_
            refine g_iload_n dX5_readDeed_111 rfl ?_
            refine g_aload_n dX5_readDeed_112 rfl ?_
            refine g_gfI fi_5_108 hr0 dX5_readDeed_113 ?_
            obtain ⟨j_51, hj_51, ej_51, h⟩ := h
            refine g_iast j_51 hR_50 rfl hj_51 (by decide) ej_51 dX5_readDeed_116 ?_
            obtain ⟨μ_52, eμ_52⟩ : ∃ z : gMem, z = gsI μ_46 521 (μ_46.2.2 2) j_51 (μ_46.1 5 r0 4) := ⟨_, rfl⟩
            have h := h μ_52 eμ_52
            refine g_mem eμ_52.symm ?_
            refine g_aload_n dX5_readDeed_117 rfl ?_
            obtain ⟨hR_53, h⟩ := h
            refine g_gfR5 fl_5_33 (by assumption) hr0 dX5_readDeed_118 ?_
            refine g_dup dX5_readDeed_121 rfl ?_
            refine g_gfI fi_5_117 hR_53 dX5_readDeed_122 ?_
            refine g_iconst (1 : Int32) dX5_readDeed_125 rfl ?_
            refine g_iadd dX5_readDeed_126 ?_
            refine g_pfI fi_5_117 hR_53 rfl rfl dX5_readDeed_127 ?_
            obtain ⟨μ_54, eμ_54⟩ : ∃ z : gMem, z = gsI μ_52 7 (μ_52.2.2 2) 5 ((μ_52.1 7 (μ_52.2.2 2) 5) + (1 : Int32)) := ⟨_, rfl⟩
            have h := h μ_54 eμ_54
            refine g_mem eμ_54.symm ?_
            refine g_iconst (1 : Int32) dX5_readDeed_130 rfl ?_
            exact g_iret dX5_readDeed_131 rfl rfl ⟨_, rfl, h⟩
          · have h := h.2 c_49
            refine g_iconst (0 : Int32) dX5_readDeed_102 rfl ?_
            exact g_iret dX5_readDeed_103 rfl rfl ⟨_, rfl, h⟩
        · have h := h.2 c_38
          refine g_iconst (0 : Int32) dX5_readDeed_77 rfl ?_
          exact g_iret dX5_readDeed_78 rfl rfl ⟨_, rfl, h⟩
      · have h := h.2 c_27
        refine g_iconst (0 : Int32) dX5_readDeed_52 rfl ?_
        exact g_iret dX5_readDeed_53 rfl rfl ⟨_, rfl, h⟩
  · have h := h.2 c_3
    refine g_aload_n dX5_readDeed_14 rfl ?_
    refine g_iconst (2 : Int32) dX5_readDeed_15 rfl ?_
    obtain ⟨d_55, q_56, hd_57, hc_58, h⟩ := h
    refine g_cV ca_X5_59 ob_5 hc_58 hd_57 (by decide) hr0 rfl rfl (by first | exact Nat.le_of_ble_eq_true rfl | decide) dX5_readDeed_16 (kI (fun v_60 μ_59 hq_61 => ?_))
    have h := h v_60 μ_59 hq_61
    obtain ⟨hz9, h⟩ := h
    exact g_iret dX5_readDeed_19 rfl (nar_z hz9).1 ⟨_, rfl, h⟩
theorem en_X5_readDeed {l : Launch} {D : gD} {d : Nat} {q : Int32 → gMem → Prop} {r0 : Nat} {μ : gMem} (h : ∀ Γ : gC, pt_X5_readDeed_0 l D d q Γ r0 μ) : Ctr l D d yX5_readDeed cX5_readDeed 2 (some .boolean) [.ref (D.2.2 5 r0)] μ (pI q) :=
  Ctr_of rfl (by decide) (Nat.le_of_ble_eq_true rfl) (fun Γ => g_sub [0] rfl (h Γ))
def pt_X5_readPlan_0 (l : Launch) (D : gD) (d : Nat) (q : Int32 → gMem → Prop) (Γ : gC) (r0 : Nat) (μ : gMem) : Prop := G l D RX5 cX5_readPlan 3 (some .boolean) d (pI q) Γ 0 [(0, .ref (D.2.2 5 r0))] [] μ
set_option maxRecDepth 20000 in
set_option maxHeartbeats 4000000 in
theorem bl_X5_readPlan_0 {l : Launch} {D : gD} {d : Nat} {q : Int32 → gMem → Prop} {Γ : gC} {r0 : Nat} {μ : gMem} (hr0 : r0 < 1) (h : (μ.2.2 2 < 2) ∧ ((((μ.1 7 (μ.2.2 2) 10) < (12 : Int32)) → ∃ (d_3 : Nat) (q_4 : gMem → Prop), d_3 < d ∧ Ctr l D d_3 yX6_next cX6_next 1 none [.ref (D.2.2 6 0)] μ (pV q_4) ∧ ∀ (μ_7 : gMem), q_4 μ_7 → (μ_7.2.2 2 < 2) ∧ ((μ_7.2.2 2 < 2) ∧ (∃ (d_12 : Nat) (q_13 : Int32 → gMem → Prop), d_12 < d ∧ Ctr l D d_12 yX5_findName cX5_findName 4 (some .int) [.ref (D.2.2 5 r0), .ref (D.2.2 513 (μ_7.2.2 2)), .int (μ_7.1 7 (μ_7.2.2 2) 0)] μ_7 (pI q_13) ∧ ∀ (v_17 : Int32) (μ_16 : gMem), q_13 v_17 μ_16 → ∀ x1_19 : Int32, x1_19 = v_17 → ((¬ x1_19 = (-1 : Int32)) → ∃ (d_21 : Nat) (q_22 : gMem → Prop), d_21 < d ∧ Ctr l D d_21 yX6_next cX6_next 1 none [.ref (D.2.2 6 0)] μ_16 (pV q_22) ∧ ∀ (μ_25 : gMem), q_22 μ_25 → (μ_25.2.2 2 < 2) ∧ ((μ_25.2.2 2 < 2) ∧ (∃ (d_30 : Nat) (q_31 : Int32 → gMem → Prop), d_30 < d ∧ Ctr l D d_30 yX5_findName cX5_findName 4 (some .int) [.ref (D.2.2 5 r0), .ref (D.2.2 518 (μ_25.2.2 2)), .int (μ_25.1 7 (μ_25.2.2 2) 5)] μ_25 (pI q_31) ∧ ∀ (v_35 : Int32) (μ_34 : gMem), q_31 v_35 μ_34 → ∀ x2_37 : Int32, x2_37 = v_35 → ((¬ x2_37 = (-1 : Int32)) → (μ_34.2.2 2 < 2) ∧ (∃ j_40 : Nat, j_40 < 30 ∧ (x1_19 * (6 : Int32)) + x2_37 = nI j_40 ∧ ((((μ_34.1 523 (μ_34.2.2 2) j_40) = 0) → ∃ (d_42 : Nat) (q_43 : gMem → Prop), d_42 < d ∧ Ctr l D d_42 yX6_next cX6_next 1 none [.ref (D.2.2 6 0)] μ_34 (pV q_43) ∧ ∀ (μ_46 : gMem), q_43 μ_46 → ∃ (d_49 : Nat) (q_50 : Int32 → gMem → Prop), d_49 < d ∧ Ctr l D d_49 yX5_readNumber cX5_readNumber 3 (some .boolean) [.ref (D.2.2 5 r0), .int (1 : Int32), .int (9 : Int32)] μ_46 (pI q_50) ∧ ∀ (v_54 : Int32) (μ_53 : gMem), q_50 v_54 μ_53 → ((¬ v_54 = 0) → (μ_53.2.2 2 < 2) ∧ (∃ j_58 : Nat, j_58 < 30 ∧ (x1_19 * (6 : Int32)) + x2_37 = nI j_58 ∧ (∀ μ_59 : gMem, μ_59 = gsI μ_53 523 (μ_53.2.2 2) j_58 (μ_53.1 5 r0 4) → (μ_59.2.2 2 < 2) ∧ (∀ μ_61 : gMem, μ_61 = gsI μ_59 7 (μ_59.2.2 2) 10 ((μ_59.1 7 (μ_59.2.2 2) 10) + (1 : Int32)) → q (1 : Int32) μ_61)))) ∧ ((v_54 = 0) → q (0 : Int32) μ_53)) ∧ ((¬ (μ_34.1 523 (μ_34.2.2 2) j_40) = 0) → ∃ (d_62 : Nat) (q_63 : Int32 → gMem → Prop), d_62 < d ∧ Ctr l D d_62 yX5_fail cX5_fail 2 (some .boolean) [.ref (D.2.2 5 r0), .int (3 : Int32)] μ_34 (pI q_63) ∧ ∀ (v_67 : Int32) (μ_66 : gMem), q_63 v_67 μ_66 → (v_67 = 0 ∨ v_67 = 1) ∧ q v_67 μ_66)))) ∧ ((x2_37 = (-1 : Int32)) → q (0 : Int32) μ_34)))) ∧ ((x1_19 = (-1 : Int32)) → q (0 : Int32) μ_16)))) ∧ ((¬ (μ.1 7 (μ.2.2 2) 10) < (12 : Int32)) → ∃ (d_69 : Nat) (q_70 : Int32 → gMem → Prop), d_69 < d ∧ Ctr l D d_69 yX5_fail cX5_fail 2 (some .boolean) [.ref (D.2.2 5 r0), .int (2 : Int32)] μ (pI q_70) ∧ ∀ (v_74 : Int32) (μ_73 : gMem), q_70 v_74 μ_73 → (v_74 = 0 ∨ v_74 = 1) ∧ q v_74 μ_73))) : pt_X5_readPlan_0 l D d q Γ r0 μ := by
  unfold pt_X5_readPlan_0
  refine g_aload_n dX5_readPlan_0 rfl ?_
  obtain ⟨hR_1, h⟩ := h
  refine g_gfR5 fl_5_33 (by assumption) hr0 dX5_readPlan_1 ?_
  refine g_gfI fi_5_132 hR_1 dX5_readPlan_4 ?_
  refine g_bipush (12 : Int32) dX5_readPlan_7 rfl ?_
  refine g_icmp_lt (tgt := 18) dX5_readPlan_9 (by decide) (fun c_2 => ?_) (fun c_2 => ?_)
  · have h := h.1 c_2
    refine g_aload_n dX5_readPlan_18 rfl ?_
    refine g_gfR fl_5_29 rfl hr0 dX5_readPlan_19 ?_
    obtain ⟨d_3, q_4, hd_5, hc_6, h⟩ := h
    refine g_cV ca_X5_63 ob_6 hc_6 hd_5 (by decide) (by decide) rfl rfl (by first | exact Nat.le_of_ble_eq_true rfl | decide) dX5_readPlan_22 (kV (fun μ_7 hq_9 => ?_))
    have h := h μ_7 hq_9
    refine g_aload_n dX5_readPlan_25 rfl ?_
    refine g_aload_n dX5_readPlan_26 rfl ?_
    obtain ⟨hR_10, h⟩ := h
    refine g_gfR5 fl_5_33 (by assumption) hr0 dX5_readPlan_27 ?_
    refine g_gfR fl_5_93 rfl hR_10 dX5_readPlan_30 ?_
    refine g_aload_n dX5_readPlan_33 rfl ?_
    obtain ⟨hR_11, h⟩ := h
    refine g_gfR5 fl_5_33 (by assumption) hr0 dX5_readPlan_34 ?_
    refine g_gfI fi_5_90 hR_11 dX5_readPlan_37 ?_
    obtain ⟨d_12, q_13, hd_14, hc_15, h⟩ := h
    refine g_cV ca_X5_135 ob_5 hc_15 hd_14 (by decide) hr0 rfl rfl (by first | exact Nat.le_of_ble_eq_true rfl | decide) dX5_readPlan_40 (kI (fun v_17 μ_16 hq_18 => ?_))
    have h := h v_17 μ_16 hq_18
    refine g_istore_n dX5_readPlan_43 (by decide) (fun x1_19 ex1_19 => g_sub (lv' := [(0, .ref (D.2.2 5 r0)), (1, .int x1_19)]) [1, 0] rfl ?_)
    have h := h x1_19 ex1_19
    refine g_iload_n dX5_readPlan_44 rfl ?_
    refine g_iconst (-1 : Int32) dX5_readPlan_45 rfl ?_
    refine g_icmp_ne (tgt := 51) dX5_readPlan_46 (by decide) (fun c_20 => ?_) (fun c_20 => ?_)
    · have h := h.1 c_20
      refine g_aload_n dX5_readPlan_51 rfl ?_
      refine g_gfR fl_5_29 rfl hr0 dX5_readPlan_52 ?_
      obtain ⟨d_21, q_22, hd_23, hc_24, h⟩ := h
      refine g_cV ca_X5_63 ob_6 hc_24 hd_23 (by decide) (by decide) rfl rfl (by first | exact Nat.le_of_ble_eq_true rfl | decide) dX5_readPlan_55 (kV (fun μ_25 hq_27 => ?_))
      have h := h μ_25 hq_27
      refine g_aload_n dX5_readPlan_58 rfl ?_
      refine g_aload_n dX5_readPlan_59 rfl ?_
      obtain ⟨hR_28, h⟩ := h
      refine g_gfR5 fl_5_33 (by assumption) hr0 dX5_readPlan_60 ?_
      refine g_gfR fl_5_120 rfl hR_28 dX5_readPlan_63 ?_
      refine g_aload_n dX5_readPlan_66 rfl ?_
      obtain ⟨hR_29, h⟩ := h
      refine g_gfR5 fl_5_33 (by assumption) hr0 dX5_readPlan_67 ?_
      refine g_gfI fi_5_117 hR_29 dX5_readPlan_70 ?_
      obtain ⟨d_30, q_31, hd_32, hc_33, h⟩ := h
      refine g_cV ca_X5_135 ob_5 hc_33 hd_32 (by decide) hr0 rfl rfl (by first | exact Nat.le_of_ble_eq_true rfl | decide) dX5_readPlan_73 (kI (fun v_35 μ_34 hq_36 => ?_))
      have h := h v_35 μ_34 hq_36
      refine g_istore_n dX5_readPlan_76 (by decide) (fun x2_37 ex2_37 => g_sub (lv' := [(0, .ref (D.2.2 5 r0)), (1, .int x1_19), (2, .int x2_37)]) [1, 2, 0] rfl ?_)
      have h := h x2_37 ex2_37
      refine g_iload_n dX5_readPlan_77 rfl ?_
      refine g_iconst (-1 : Int32) dX5_readPlan_78 rfl ?_
      refine g_icmp_ne (tgt := 84) dX5_readPlan_79 (by decide) (fun c_38 => ?_) (fun c_38 => ?_)
      · have h := h.1 c_38
        refine g_aload_n dX5_readPlan_84 rfl ?_
        obtain ⟨hR_39, h⟩ := h
        refine g_gfR5 fl_5_33 (by assumption) hr0 dX5_readPlan_85 ?_
        refine g_gfR fl_5_139 rfl hR_39 dX5_readPlan_88 ?_
        refine g_iload_n dX5_readPlan_91 rfl ?_
        refine g_bipush (6 : Int32) dX5_readPlan_92 rfl ?_
        refine g_imul dX5_readPlan_94 ?_
        refine g_iload_n dX5_readPlan_95 rfl ?_
        refine g_iadd dX5_readPlan_96 ?_
        obtain ⟨j_40, hj_40, ej_40, h⟩ := h
        refine g_iald j_40 hR_39 rfl hj_40 (by decide) ej_40 dX5_readPlan_97 ?_
        refine g_if_eq (tgt := 107) dX5_readPlan_98 (by decide) (fun c_41 => ?_) (fun c_41 => ?_)
        · have h := h.1 c_41
          refine g_aload_n dX5_readPlan_107 rfl ?_
          refine g_gfR fl_5_29 rfl hr0 dX5_readPlan_108 ?_
          obtain ⟨d_42, q_43, hd_44, hc_45, h⟩ := h
          refine g_cV ca_X5_63 ob_6 hc_45 hd_44 (by decide) (by decide) rfl rfl (by first | exact Nat.le_of_ble_eq_true rfl | decide) dX5_readPlan_111 (kV (fun μ_46 hq_48 => ?_))
          have h := h μ_46 hq_48
          refine g_aload_n dX5_readPlan_114 rfl ?_
          refine g_iconst (1 : Int32) dX5_readPlan_115 rfl ?_
          refine g_bipush (9 : Int32) dX5_readPlan_116 rfl ?_
          obtain ⟨d_49, q_50, hd_51, hc_52, h⟩ := h
          refine g_cV ca_X5_101 ob_5 hc_52 hd_51 (by decide) hr0 rfl rfl (by first | exact Nat.le_of_ble_eq_true rfl | decide) dX5_readPlan_118 (kI (fun v_54 μ_53 hq_55 => ?_))
          have h := h v_54 μ_53 hq_55
          refine g_if_ne (tgt := 126) dX5_readPlan_121 (by decide) (fun c_56 => ?_) (fun c_56 => ?_)
          · have h := h.1 c_56
            refine g_aload_n dX5_readPlan_126 rfl ?_
            obtain ⟨hR_57, h⟩ := h
            refine g_gfR5 fl_5_33 (by assumption) hr0 dX5_readPlan_127 ?_
            refine g_gfR fl_5_139 rfl hR_57 dX5_readPlan_130 ?_
            refine g_iload_n dX5_readPlan_133 rfl ?_
            refine g_bipush (6 : Int32) dX5_readPlan_134 rfl ?_
            refine g_imul dX5_readPlan_136 ?_
            refine g_iload_n dX5_readPlan_137 rfl ?_
            refine g_iadd dX5_readPlan_138 ?_
            refine g_aload_n dX5_readPlan_139 rfl ?_
            refine g_gfI fi_5_108 hr0 dX5_readPlan_140 ?_
            obtain ⟨j_58, hj_58, ej_58, h⟩ := h
            refine g_iast j_58 hR_57 rfl hj_58 (by decide) ej_58 dX5_readPlan_143 ?_
            obtain ⟨μ_59, eμ_59⟩ : ∃ z : gMem, z = gsI μ_53 523 (μ_53.2.2 2) j_58 (μ_53.1 5 r0 4) := ⟨_, rfl⟩
            have h := h μ_59 eμ_59
            refine g_mem eμ_59.symm ?_
            refine g_aload_n dX5_readPlan_144 rfl ?_
            obtain ⟨hR_60, h⟩ := h
            refine g_gfR5 fl_5_33 (by assumption) hr0 dX5_readPlan_145 ?_
            refine g_dup dX5_readPlan_148 rfl ?_
            refine g_gfI fi_5_132 hR_60 dX5_readPlan_149 ?_
            refine g_iconst (1 : Int32) dX5_readPlan_152 rfl ?_
            refine g_iadd dX5_readPlan_153 ?_
            refine g_pfI fi_5_132 hR_60 rfl rfl dX5_readPlan_154 ?_
            obtain ⟨μ_61, eμ_61⟩ : ∃ z : gMem, z = gsI μ_59 7 (μ_59.2.2 2) 10 ((μ_59.1 7 (μ_59.2.2 2) 10) + (1 : Int32)) := ⟨_, rfl⟩
            have h := h μ_61 eμ_61
            refine g_mem eμ_61.symm ?_
            refine g_iconst (1 : Int32) dX5_readPlan_157 rfl ?_
            exact g_iret dX5_readPlan_158 rfl rfl ⟨_, rfl, h⟩
          · have h := h.2 c_56
            refine g_iconst (0 : Int32) dX5_readPlan_124 rfl ?_
            exact g_iret dX5_readPlan_125 rfl rfl ⟨_, rfl, h⟩
        · have h := h.2 c_41
          refine g_aload_n dX5_readPlan_101 rfl ?_
          refine g_iconst (3 : Int32) dX5_readPlan_102 rfl ?_
          obtain ⟨d_62, q_63, hd_64, hc_65, h⟩ := h
          refine g_cV ca_X5_59 ob_5 hc_65 hd_64 (by decide) hr0 rfl rfl (by first | exact Nat.le_of_ble_eq_true rfl | decide) dX5_readPlan_103 (kI (fun v_67 μ_66 hq_68 => ?_))
          have h := h v_67 μ_66 hq_68
          obtain ⟨hz9, h⟩ := h
          exact g_iret dX5_readPlan_106 rfl (nar_z hz9).1 ⟨_, rfl, h⟩
      · have h := h.2 c_38
        refine g_iconst (0 : Int32) dX5_readPlan_82 rfl ?_
        exact g_iret dX5_readPlan_83 rfl rfl ⟨_, rfl, h⟩
    · have h := h.2 c_20
      refine g_iconst (0 : Int32) dX5_readPlan_49 rfl ?_
      exact g_iret dX5_readPlan_50 rfl rfl ⟨_, rfl, h⟩
  · have h := h.2 c_2
    refine g_aload_n dX5_readPlan_12 rfl ?_
    refine g_iconst (2 : Int32) dX5_readPlan_13 rfl ?_
    obtain ⟨d_69, q_70, hd_71, hc_72, h⟩ := h
    refine g_cV ca_X5_59 ob_5 hc_72 hd_71 (by decide) hr0 rfl rfl (by first | exact Nat.le_of_ble_eq_true rfl | decide) dX5_readPlan_14 (kI (fun v_74 μ_73 hq_75 => ?_))
    have h := h v_74 μ_73 hq_75
    obtain ⟨hz9, h⟩ := h
    exact g_iret dX5_readPlan_17 rfl (nar_z hz9).1 ⟨_, rfl, h⟩
theorem en_X5_readPlan {l : Launch} {D : gD} {d : Nat} {q : Int32 → gMem → Prop} {r0 : Nat} {μ : gMem} (h : ∀ Γ : gC, pt_X5_readPlan_0 l D d q Γ r0 μ) : Ctr l D d yX5_readPlan cX5_readPlan 3 (some .boolean) [.ref (D.2.2 5 r0)] μ (pI q) :=
  Ctr_of rfl (by decide) (Nat.le_of_ble_eq_true rfl) (fun Γ => g_sub [0] rfl (h Γ))
def pt_X5_readBet_0 (l : Launch) (D : gD) (d : Nat) (q : Int32 → gMem → Prop) (Γ : gC) (r0 : Nat) (μ : gMem) : Prop := G l D RX5 cX5_readBet 1 (some .boolean) d (pI q) Γ 0 [(0, .ref (D.2.2 5 r0))] [] μ
set_option maxRecDepth 20000 in
set_option maxHeartbeats 4000000 in
theorem bl_X5_readBet_0 {l : Launch} {D : gD} {d : Nat} {q : Int32 → gMem → Prop} {Γ : gC} {r0 : Nat} {μ : gMem} (hr0 : r0 < 1) (h : ∃ (d_1 : Nat) (q_2 : Int32 → gMem → Prop), d_1 < d ∧ Ctr l D d_1 yX5_readOnce cX5_readOnce 2 (some .boolean) [.ref (D.2.2 5 r0)] μ (pI q_2) ∧ ∀ (v_6 : Int32) (μ_5 : gMem), q_2 v_6 μ_5 → ((v_6 = 0) → q (0 : Int32) μ_5) ∧ ((¬ v_6 = 0) → ∃ (d_9 : Nat) (q_10 : Int32 → gMem → Prop), d_9 < d ∧ Ctr l D d_9 yX5_readNumber cX5_readNumber 3 (some .boolean) [.ref (D.2.2 5 r0), .int (0 : Int32), .int (999 : Int32)] μ_5 (pI q_10) ∧ ∀ (v_14 : Int32) (μ_13 : gMem), q_10 v_14 μ_13 → ((¬ v_14 = 0) → (μ_13.2.2 2 < 2) ∧ (∀ μ_18 : gMem, μ_18 = gsI μ_13 7 (μ_13.2.2 2) 12 (μ_13.1 5 r0 4) → ∃ (d_19 : Nat) (q_20 : Int32 → gMem → Prop), d_19 < d ∧ Ctr l D d_19 yX5_readNumber cX5_readNumber 3 (some .boolean) [.ref (D.2.2 5 r0), .int (1 : Int32), .int (14 : Int32)] μ_18 (pI q_20) ∧ ∀ (v_24 : Int32) (μ_23 : gMem), q_20 v_24 μ_23 → ((¬ v_24 = 0) → (μ_23.2.2 2 < 2) ∧ (∀ μ_28 : gMem, μ_28 = gsI μ_23 7 (μ_23.2.2 2) 13 (μ_23.1 5 r0 4) → q (1 : Int32) μ_28)) ∧ ((v_24 = 0) → q (0 : Int32) μ_23))) ∧ ((v_14 = 0) → q (0 : Int32) μ_13))) : pt_X5_readBet_0 l D d q Γ r0 μ := by
  unfold pt_X5_readBet_0
  refine g_aload_n dX5_readBet_0 rfl ?_
  obtain ⟨d_1, q_2, hd_3, hc_4, h⟩ := h
  refine g_cV ca_X5_142 ob_5 hc_4 hd_3 (by decide) hr0 rfl rfl (by first | exact Nat.le_of_ble_eq_true rfl | decide) dX5_readBet_1 (kI (fun v_6 μ_5 hq_7 => ?_))
  have h := h v_6 μ_5 hq_7
  refine g_if_eq (tgt := 18) dX5_readBet_4 (by decide) (fun c_8 => ?_) (fun c_8 => ?_)
  · have h := h.1 c_8
    refine g_iconst (0 : Int32) dX5_readBet_18 rfl ?_
    exact g_iret dX5_readBet_19 rfl rfl ⟨_, rfl, h⟩
  · have h := h.2 c_8
    refine g_aload_n dX5_readBet_7 rfl ?_
    refine g_iconst (0 : Int32) dX5_readBet_8 rfl ?_
    refine g_sipush (999 : Int32) dX5_readBet_9 rfl ?_
    obtain ⟨d_9, q_10, hd_11, hc_12, h⟩ := h
    refine g_cV ca_X5_101 ob_5 hc_12 hd_11 (by decide) hr0 rfl rfl (by first | exact Nat.le_of_ble_eq_true rfl | decide) dX5_readBet_12 (kI (fun v_14 μ_13 hq_15 => ?_))
    have h := h v_14 μ_13 hq_15
    refine g_if_ne (tgt := 20) dX5_readBet_15 (by decide) (fun c_16 => ?_) (fun c_16 => ?_)
    · have h := h.1 c_16
      refine g_aload_n dX5_readBet_20 rfl ?_
      obtain ⟨hR_17, h⟩ := h
      refine g_gfR5 fl_5_33 (by assumption) hr0 dX5_readBet_21 ?_
      refine g_aload_n dX5_readBet_24 rfl ?_
      refine g_gfI fi_5_108 hr0 dX5_readBet_25 ?_
      refine g_pfI fi_5_145 hR_17 rfl rfl dX5_readBet_28 ?_
      obtain ⟨μ_18, eμ_18⟩ : ∃ z : gMem, z = gsI μ_13 7 (μ_13.2.2 2) 12 (μ_13.1 5 r0 4) := ⟨_, rfl⟩
      have h := h μ_18 eμ_18
      refine g_mem eμ_18.symm ?_
      refine g_aload_n dX5_readBet_31 rfl ?_
      refine g_iconst (1 : Int32) dX5_readBet_32 rfl ?_
      refine g_bipush (14 : Int32) dX5_readBet_33 rfl ?_
      obtain ⟨d_19, q_20, hd_21, hc_22, h⟩ := h
      refine g_cV ca_X5_101 ob_5 hc_22 hd_21 (by decide) hr0 rfl rfl (by first | exact Nat.le_of_ble_eq_true rfl | decide) dX5_readBet_35 (kI (fun v_24 μ_23 hq_25 => ?_))
      have h := h v_24 μ_23 hq_25
      refine g_if_ne (tgt := 43) dX5_readBet_38 (by decide) (fun c_26 => ?_) (fun c_26 => ?_)
      · have h := h.1 c_26
        refine g_aload_n dX5_readBet_43 rfl ?_
        obtain ⟨hR_27, h⟩ := h
        refine g_gfR5 fl_5_33 (by assumption) hr0 dX5_readBet_44 ?_
        refine g_aload_n dX5_readBet_47 rfl ?_
        refine g_gfI fi_5_108 hr0 dX5_readBet_48 ?_
        refine g_pfI fi_5_148 hR_27 rfl rfl dX5_readBet_51 ?_
        obtain ⟨μ_28, eμ_28⟩ : ∃ z : gMem, z = gsI μ_23 7 (μ_23.2.2 2) 13 (μ_23.1 5 r0 4) := ⟨_, rfl⟩
        have h := h μ_28 eμ_28
        refine g_mem eμ_28.symm ?_
        refine g_iconst (1 : Int32) dX5_readBet_54 rfl ?_
        exact g_iret dX5_readBet_55 rfl rfl ⟨_, rfl, h⟩
      · have h := h.2 c_26
        refine g_iconst (0 : Int32) dX5_readBet_41 rfl ?_
        exact g_iret dX5_readBet_42 rfl rfl ⟨_, rfl, h⟩
    · have h := h.2 c_16
      refine g_iconst (0 : Int32) dX5_readBet_18 rfl ?_
      exact g_iret dX5_readBet_19 rfl rfl ⟨_, rfl, h⟩
theorem en_X5_readBet {l : Launch} {D : gD} {d : Nat} {q : Int32 → gMem → Prop} {r0 : Nat} {μ : gMem} (h : ∀ Γ : gC, pt_X5_readBet_0 l D d q Γ r0 μ) : Ctr l D d yX5_readBet cX5_readBet 1 (some .boolean) [.ref (D.2.2 5 r0)] μ (pI q) :=
  Ctr_of rfl (by decide) (Nat.le_of_ble_eq_true rfl) (fun Γ => g_sub [0] rfl (h Γ))
def pt_X5_readPay_0 (l : Launch) (D : gD) (d : Nat) (q : Int32 → gMem → Prop) (Γ : gC) (r0 : Nat) (μ : gMem) : Prop := G l D RX5 cX5_readPay 1 (some .boolean) d (pI q) Γ 0 [(0, .ref (D.2.2 5 r0))] [] μ
set_option maxRecDepth 20000 in
set_option maxHeartbeats 4000000 in
theorem bl_X5_readPay_0 {l : Launch} {D : gD} {d : Nat} {q : Int32 → gMem → Prop} {Γ : gC} {r0 : Nat} {μ : gMem} (hr0 : r0 < 1) (h : ∃ (d_1 : Nat) (q_2 : Int32 → gMem → Prop), d_1 < d ∧ Ctr l D d_1 yX5_readOnce cX5_readOnce 2 (some .boolean) [.ref (D.2.2 5 r0)] μ (pI q_2) ∧ ∀ (v_6 : Int32) (μ_5 : gMem), q_2 v_6 μ_5 → ((v_6 = 0) → q (0 : Int32) μ_5) ∧ ((¬ v_6 = 0) → ∃ (d_9 : Nat) (q_10 : Int32 → gMem → Prop), d_9 < d ∧ Ctr l D d_9 yX5_readNumber cX5_readNumber 3 (some .boolean) [.ref (D.2.2 5 r0), .int (0 : Int32), .int (99 : Int32)] μ_5 (pI q_10) ∧ ∀ (v_14 : Int32) (μ_13 : gMem), q_10 v_14 μ_13 → ((¬ v_14 = 0) → (μ_13.2.2 2 < 2) ∧ (∀ μ_18 : gMem, μ_18 = gsI μ_13 7 (μ_13.2.2 2) 14 (μ_13.1 5 r0 4) → ∃ (d_19 : Nat) (q_20 : Int32 → gMem → Prop), d_19 < d ∧ Ctr l D d_19 yX5_readNumber cX5_readNumber 3 (some .boolean) [.ref (D.2.2 5 r0), .int (0 : Int32), .int (999 : Int32)] μ_18 (pI q_20) ∧ ∀ (v_24 : Int32) (μ_23 : gMem), q_20 v_24 μ_23 → ((¬ v_24 = 0) → (μ_23.2.2 2 < 2) ∧ (∀ μ_28 : gMem, μ_28 = gsI μ_23 7 (μ_23.2.2 2) 15 (μ_23.1 5 r0 4) → q (1 : Int32) μ_28)) ∧ ((v_24 = 0) → q (0 : Int32) μ_23))) ∧ ((v_14 = 0) → q (0 : Int32) μ_13))) : pt_X5_readPay_0 l D d q Γ r0 μ := by
  unfold pt_X5_readPay_0
  refine g_aload_n dX5_readPay_0 rfl ?_
  obtain ⟨d_1, q_2, hd_3, hc_4, h⟩ := h
  refine g_cV ca_X5_142 ob_5 hc_4 hd_3 (by decide) hr0 rfl rfl (by first | exact Nat.le_of_ble_eq_true rfl | decide) dX5_readPay_1 (kI (fun v_6 μ_5 hq_7 => ?_))
  have h := h v_6 μ_5 hq_7
  refine g_if_eq (tgt := 17) dX5_readPay_4 (by decide) (fun c_8 => ?_) (fun c_8 => ?_)
  · have h := h.1 c_8
    refine g_iconst (0 : Int32) dX5_readPay_17 rfl ?_
    exact g_iret dX5_readPay_18 rfl rfl ⟨_, rfl, h⟩
  · have h := h.2 c_8
    refine g_aload_n dX5_readPay_7 rfl ?_
    refine g_iconst (0 : Int32) dX5_readPay_8 rfl ?_
    refine g_bipush (99 : Int32) dX5_readPay_9 rfl ?_
    obtain ⟨d_9, q_10, hd_11, hc_12, h⟩ := h
    refine g_cV ca_X5_101 ob_5 hc_12 hd_11 (by decide) hr0 rfl rfl (by first | exact Nat.le_of_ble_eq_true rfl | decide) dX5_readPay_11 (kI (fun v_14 μ_13 hq_15 => ?_))
    have h := h v_14 μ_13 hq_15
    refine g_if_ne (tgt := 19) dX5_readPay_14 (by decide) (fun c_16 => ?_) (fun c_16 => ?_)
    · have h := h.1 c_16
      refine g_aload_n dX5_readPay_19 rfl ?_
      obtain ⟨hR_17, h⟩ := h
      refine g_gfR5 fl_5_33 (by assumption) hr0 dX5_readPay_20 ?_
      refine g_aload_n dX5_readPay_23 rfl ?_
      refine g_gfI fi_5_108 hr0 dX5_readPay_24 ?_
      refine g_pfI fi_5_151 hR_17 rfl rfl dX5_readPay_27 ?_
      obtain ⟨μ_18, eμ_18⟩ : ∃ z : gMem, z = gsI μ_13 7 (μ_13.2.2 2) 14 (μ_13.1 5 r0 4) := ⟨_, rfl⟩
      have h := h μ_18 eμ_18
      refine g_mem eμ_18.symm ?_
      refine g_aload_n dX5_readPay_30 rfl ?_
      refine g_iconst (0 : Int32) dX5_readPay_31 rfl ?_
      refine g_sipush (999 : Int32) dX5_readPay_32 rfl ?_
      obtain ⟨d_19, q_20, hd_21, hc_22, h⟩ := h
      refine g_cV ca_X5_101 ob_5 hc_22 hd_21 (by decide) hr0 rfl rfl (by first | exact Nat.le_of_ble_eq_true rfl | decide) dX5_readPay_35 (kI (fun v_24 μ_23 hq_25 => ?_))
      have h := h v_24 μ_23 hq_25
      refine g_if_ne (tgt := 43) dX5_readPay_38 (by decide) (fun c_26 => ?_) (fun c_26 => ?_)
      · have h := h.1 c_26
        refine g_aload_n dX5_readPay_43 rfl ?_
        obtain ⟨hR_27, h⟩ := h
        refine g_gfR5 fl_5_33 (by assumption) hr0 dX5_readPay_44 ?_
        refine g_aload_n dX5_readPay_47 rfl ?_
        refine g_gfI fi_5_108 hr0 dX5_readPay_48 ?_
        refine g_pfI fi_5_154 hR_27 rfl rfl dX5_readPay_51 ?_
        obtain ⟨μ_28, eμ_28⟩ : ∃ z : gMem, z = gsI μ_23 7 (μ_23.2.2 2) 15 (μ_23.1 5 r0 4) := ⟨_, rfl⟩
        have h := h μ_28 eμ_28
        refine g_mem eμ_28.symm ?_
        refine g_iconst (1 : Int32) dX5_readPay_54 rfl ?_
        exact g_iret dX5_readPay_55 rfl rfl ⟨_, rfl, h⟩
      · have h := h.2 c_26
        refine g_iconst (0 : Int32) dX5_readPay_41 rfl ?_
        exact g_iret dX5_readPay_42 rfl rfl ⟨_, rfl, h⟩
    · have h := h.2 c_16
      refine g_iconst (0 : Int32) dX5_readPay_17 rfl ?_
      exact g_iret dX5_readPay_18 rfl rfl ⟨_, rfl, h⟩
theorem en_X5_readPay {l : Launch} {D : gD} {d : Nat} {q : Int32 → gMem → Prop} {r0 : Nat} {μ : gMem} (h : ∀ Γ : gC, pt_X5_readPay_0 l D d q Γ r0 μ) : Ctr l D d yX5_readPay cX5_readPay 1 (some .boolean) [.ref (D.2.2 5 r0)] μ (pI q) :=
  Ctr_of rfl (by decide) (Nat.le_of_ble_eq_true rfl) (fun Γ => g_sub [0] rfl (h Γ))
def pt_X5_readRain_0 (l : Launch) (D : gD) (d : Nat) (q : Int32 → gMem → Prop) (Γ : gC) (r0 : Nat) (μ : gMem) : Prop := G l D RX5 cX5_readRain 1 (some .boolean) d (pI q) Γ 0 [(0, .ref (D.2.2 5 r0))] [] μ
set_option maxRecDepth 20000 in
set_option maxHeartbeats 4000000 in
theorem bl_X5_readRain_0 {l : Launch} {D : gD} {d : Nat} {q : Int32 → gMem → Prop} {Γ : gC} {r0 : Nat} {μ : gMem} (hr0 : r0 < 1) (h : ∃ (d_1 : Nat) (q_2 : Int32 → gMem → Prop), d_1 < d ∧ Ctr l D d_1 yX5_readOnce cX5_readOnce 2 (some .boolean) [.ref (D.2.2 5 r0)] μ (pI q_2) ∧ ∀ (v_6 : Int32) (μ_5 : gMem), q_2 v_6 μ_5 → ((v_6 = 0) → q (0 : Int32) μ_5) ∧ ((¬ v_6 = 0) → ∃ (d_9 : Nat) (q_10 : Int32 → gMem → Prop), d_9 < d ∧ Ctr l D d_9 yX5_readNumber cX5_readNumber 3 (some .boolean) [.ref (D.2.2 5 r0), .int (0 : Int32), .int (100 : Int32)] μ_5 (pI q_10) ∧ ∀ (v_14 : Int32) (μ_13 : gMem), q_10 v_14 μ_13 → ((¬ v_14 = 0) → (μ_13.2.2 2 < 2) ∧ (∀ μ_18 : gMem, μ_18 = gsI μ_13 7 (μ_13.2.2 2) 16 (μ_13.1 5 r0 4) → q (1 : Int32) μ_18)) ∧ ((v_14 = 0) → q (0 : Int32) μ_13))) : pt_X5_readRain_0 l D d q Γ r0 μ := by
  unfold pt_X5_readRain_0
  refine g_aload_n dX5_readRain_0 rfl ?_
  obtain ⟨d_1, q_2, hd_3, hc_4, h⟩ := h
  refine g_cV ca_X5_142 ob_5 hc_4 hd_3 (by decide) hr0 rfl rfl (by first | exact Nat.le_of_ble_eq_true rfl | decide) dX5_readRain_1 (kI (fun v_6 μ_5 hq_7 => ?_))
  have h := h v_6 μ_5 hq_7
  refine g_if_eq (tgt := 17) dX5_readRain_4 (by decide) (fun c_8 => ?_) (fun c_8 => ?_)
  · have h := h.1 c_8
    refine g_iconst (0 : Int32) dX5_readRain_17 rfl ?_
    exact g_iret dX5_readRain_18 rfl rfl ⟨_, rfl, h⟩
  · have h := h.2 c_8
    refine g_aload_n dX5_readRain_7 rfl ?_
    refine g_iconst (0 : Int32) dX5_readRain_8 rfl ?_
    refine g_bipush (100 : Int32) dX5_readRain_9 rfl ?_
    obtain ⟨d_9, q_10, hd_11, hc_12, h⟩ := h
    refine g_cV ca_X5_101 ob_5 hc_12 hd_11 (by decide) hr0 rfl rfl (by first | exact Nat.le_of_ble_eq_true rfl | decide) dX5_readRain_11 (kI (fun v_14 μ_13 hq_15 => ?_))
    have h := h v_14 μ_13 hq_15
    refine g_if_ne (tgt := 19) dX5_readRain_14 (by decide) (fun c_16 => ?_) (fun c_16 => ?_)
    · have h := h.1 c_16
      refine g_aload_n dX5_readRain_19 rfl ?_
      obtain ⟨hR_17, h⟩ := h
      refine g_gfR5 fl_5_33 (by assumption) hr0 dX5_readRain_20 ?_
      refine g_aload_n dX5_readRain_23 rfl ?_
      refine g_gfI fi_5_108 hr0 dX5_readRain_24 ?_
      refine g_pfI fi_5_157 hR_17 rfl rfl dX5_readRain_27 ?_
      obtain ⟨μ_18, eμ_18⟩ : ∃ z : gMem, z = gsI μ_13 7 (μ_13.2.2 2) 16 (μ_13.1 5 r0 4) := ⟨_, rfl⟩
      have h := h μ_18 eμ_18
      refine g_mem eμ_18.symm ?_
      refine g_iconst (1 : Int32) dX5_readRain_30 rfl ?_
      exact g_iret dX5_readRain_31 rfl rfl ⟨_, rfl, h⟩
    · have h := h.2 c_16
      refine g_iconst (0 : Int32) dX5_readRain_17 rfl ?_
      exact g_iret dX5_readRain_18 rfl rfl ⟨_, rfl, h⟩
theorem en_X5_readRain {l : Launch} {D : gD} {d : Nat} {q : Int32 → gMem → Prop} {r0 : Nat} {μ : gMem} (h : ∀ Γ : gC, pt_X5_readRain_0 l D d q Γ r0 μ) : Ctr l D d yX5_readRain cX5_readRain 1 (some .boolean) [.ref (D.2.2 5 r0)] μ (pI q) :=
  Ctr_of rfl (by decide) (Nat.le_of_ble_eq_true rfl) (fun Γ => g_sub [0] rfl (h Γ))
def pt_X5_readSeed_0 (l : Launch) (D : gD) (d : Nat) (q : Int32 → gMem → Prop) (Γ : gC) (r0 : Nat) (μ : gMem) : Prop := G l D RX5 cX5_readSeed 1 (some .boolean) d (pI q) Γ 0 [(0, .ref (D.2.2 5 r0))] [] μ
set_option maxRecDepth 20000 in
set_option maxHeartbeats 4000000 in
theorem bl_X5_readSeed_0 {l : Launch} {D : gD} {d : Nat} {q : Int32 → gMem → Prop} {Γ : gC} {r0 : Nat} {μ : gMem} (hr0 : r0 < 1) (h : ∃ (d_1 : Nat) (q_2 : Int32 → gMem → Prop), d_1 < d ∧ Ctr l D d_1 yX5_readOnce cX5_readOnce 2 (some .boolean) [.ref (D.2.2 5 r0)] μ (pI q_2) ∧ ∀ (v_6 : Int32) (μ_5 : gMem), q_2 v_6 μ_5 → ((v_6 = 0) → q (0 : Int32) μ_5) ∧ ((¬ v_6 = 0) → ∃ (d_9 : Nat) (q_10 : Int32 → gMem → Prop), d_9 < d ∧ Ctr l D d_9 yX5_readNumber cX5_readNumber 3 (some .boolean) [.ref (D.2.2 5 r0), .int (0 : Int32), .int (99999 : Int32)] μ_5 (pI q_10) ∧ ∀ (v_14 : Int32) (μ_13 : gMem), q_10 v_14 μ_13 → ((¬ v_14 = 0) → (μ_13.2.2 2 < 2) ∧ (∀ μ_18 : gMem, μ_18 = gsI μ_13 7 (μ_13.2.2 2) 17 (μ_13.1 5 r0 4) → q (1 : Int32) μ_18)) ∧ ((v_14 = 0) → q (0 : Int32) μ_13))) : pt_X5_readSeed_0 l D d q Γ r0 μ := by
  unfold pt_X5_readSeed_0
  refine g_aload_n dX5_readSeed_0 rfl ?_
  obtain ⟨d_1, q_2, hd_3, hc_4, h⟩ := h
  refine g_cV ca_X5_142 ob_5 hc_4 hd_3 (by decide) hr0 rfl rfl (by first | exact Nat.le_of_ble_eq_true rfl | decide) dX5_readSeed_1 (kI (fun v_6 μ_5 hq_7 => ?_))
  have h := h v_6 μ_5 hq_7
  refine g_if_eq (tgt := 17) dX5_readSeed_4 (by decide) (fun c_8 => ?_) (fun c_8 => ?_)
  · have h := h.1 c_8
    refine g_iconst (0 : Int32) dX5_readSeed_17 rfl ?_
    exact g_iret dX5_readSeed_18 rfl rfl ⟨_, rfl, h⟩
  · have h := h.2 c_8
    refine g_aload_n dX5_readSeed_7 rfl ?_
    refine g_iconst (0 : Int32) dX5_readSeed_8 rfl ?_
    refine g_ldc kc_X5_160 dX5_readSeed_9 ?_
    obtain ⟨d_9, q_10, hd_11, hc_12, h⟩ := h
    refine g_cV ca_X5_101 ob_5 hc_12 hd_11 (by decide) hr0 rfl rfl (by first | exact Nat.le_of_ble_eq_true rfl | decide) dX5_readSeed_11 (kI (fun v_14 μ_13 hq_15 => ?_))
    have h := h v_14 μ_13 hq_15
    refine g_if_ne (tgt := 19) dX5_readSeed_14 (by decide) (fun c_16 => ?_) (fun c_16 => ?_)
    · have h := h.1 c_16
      refine g_aload_n dX5_readSeed_19 rfl ?_
      obtain ⟨hR_17, h⟩ := h
      refine g_gfR5 fl_5_33 (by assumption) hr0 dX5_readSeed_20 ?_
      refine g_aload_n dX5_readSeed_23 rfl ?_
      refine g_gfI fi_5_108 hr0 dX5_readSeed_24 ?_
      refine g_pfI fi_5_161 hR_17 rfl rfl dX5_readSeed_27 ?_
      obtain ⟨μ_18, eμ_18⟩ : ∃ z : gMem, z = gsI μ_13 7 (μ_13.2.2 2) 17 (μ_13.1 5 r0 4) := ⟨_, rfl⟩
      have h := h μ_18 eμ_18
      refine g_mem eμ_18.symm ?_
      refine g_iconst (1 : Int32) dX5_readSeed_30 rfl ?_
      exact g_iret dX5_readSeed_31 rfl rfl ⟨_, rfl, h⟩
    · have h := h.2 c_16
      refine g_iconst (0 : Int32) dX5_readSeed_17 rfl ?_
      exact g_iret dX5_readSeed_18 rfl rfl ⟨_, rfl, h⟩
theorem en_X5_readSeed {l : Launch} {D : gD} {d : Nat} {q : Int32 → gMem → Prop} {r0 : Nat} {μ : gMem} (h : ∀ Γ : gC, pt_X5_readSeed_0 l D d q Γ r0 μ) : Ctr l D d yX5_readSeed cX5_readSeed 1 (some .boolean) [.ref (D.2.2 5 r0)] μ (pI q) :=
  Ctr_of rfl (by decide) (Nat.le_of_ble_eq_true rfl) (fun Γ => g_sub [0] rfl (h Γ))
def pt_X5_readLaw_0 (l : Launch) (D : gD) (d : Nat) (q : Int32 → gMem → Prop) (Γ : gC) (r0 : Nat) (μ : gMem) : Prop := G l D RX5 cX5_readLaw 3 (some .boolean) d (pI q) Γ 0 [(0, .ref (D.2.2 5 r0))] [] μ
def pt_X5_readLaw_1 (l : Launch) (D : gD) (d : Nat) (q : Int32 → gMem → Prop) (Γ : gC)  (μ : gMem) : Prop := G l D RX5 cX5_readLaw 3 (some .boolean) d (pI q) Γ 100 [] [] μ
set_option maxRecDepth 20000 in
set_option maxHeartbeats 4000000 in
theorem bl_X5_readLaw_0 {l : Launch} {D : gD} {d : Nat} {q : Int32 → gMem → Prop} {Γ : gC} {r0 : Nat} {μ : gMem} (hr0 : r0 < 1) (h : ∃ (d_1 : Nat) (q_2 : gMem → Prop), d_1 < d ∧ Ctr l D d_1 yX6_next cX6_next 1 none [.ref (D.2.2 6 0)] μ (pV q_2) ∧ ∀ (μ_5 : gMem), q_2 μ_5 → (0 < d) ∧ (((¬ (iw (μ_5.1 6 0 5) (8 : Int32) (10 : Int32)) = 0) → ∀ x1_13 : Int32, x1_13 = (μ_5.1 6 0 5) - (8 : Int32) → (μ_5.2.2 2 < 2) ∧ (∃ (d_15 : Nat) (q_16 : Int32 → gMem → Prop), d_15 < d ∧ Ctr l D d_15 yX2_isTold cX2_isTold 2 (some .boolean) [.ref (D.2.2 2 (μ_5.2.2 2)), .int x1_13] μ_5 (pI q_16) ∧ ∀ (v_20 : Int32) (μ_19 : gMem), q_16 v_20 μ_19 → ((v_20 = 0) → ∃ (d_23 : Nat) (q_24 : gMem → Prop), d_23 < d ∧ Ctr l D d_23 yX6_next cX6_next 1 none [.ref (D.2.2 6 0)] μ_19 (pV q_24) ∧ ∀ (μ_27 : gMem), q_24 μ_27 → (μ_27.2.2 2 < 2) ∧ (∃ (d_31 : Nat) (q_32 : Int32 → gMem → Prop), d_31 < d ∧ Ctr l D d_31 yX1_readInto cX1_readInto 5 (some .int) [.ref (D.2.2 1 0), .ref (D.2.2 2 (μ_27.2.2 2)), .int x1_13, .ref (D.2.2 6 0)] μ_27 (pI q_32) ∧ ∀ (v_36 : Int32) (μ_35 : gMem), q_32 v_36 μ_35 → ∀ x2_38 : Int32, x2_38 = v_36 → ((x2_38 = 0) → pt_X5_readLaw_1 l D d q Γ  μ_35) ∧ ((¬ x2_38 = 0) → ∃ (d_40 : Nat) (q_41 : Int32 → gMem → Prop), d_40 < d ∧ Ctr l D d_40 yX5_fail cX5_fail 2 (some .boolean) [.ref (D.2.2 5 r0), .int x2_38] μ_35 (pI q_41) ∧ ∀ (v_45 : Int32) (μ_44 : gMem), q_41 v_45 μ_44 → ((v_45 = 0) → q (0 : Int32) μ_44) ∧ ((¬ v_45 = 0) → pt_X5_readLaw_1 l D d q Γ  μ_44)))) ∧ ((¬ v_20 = 0) → ∃ (d_48 : Nat) (q_49 : Int32 → gMem → Prop), d_48 < d ∧ Ctr l D d_48 yX5_fail cX5_fail 2 (some .boolean) [.ref (D.2.2 5 r0), .int (3 : Int32)] μ_19 (pI q_49) ∧ ∀ (v_53 : Int32) (μ_52 : gMem), q_49 v_53 μ_52 → (v_53 = 0 ∨ v_53 = 1) ∧ q v_53 μ_52))) ∧ (((iw (μ_5.1 6 0 5) (8 : Int32) (10 : Int32)) = 0) → ∃ (d_55 : Nat) (q_56 : Int32 → gMem → Prop), d_55 < d ∧ Ctr l D d_55 yX5_fail cX5_fail 2 (some .boolean) [.ref (D.2.2 5 r0), .int (1 : Int32)] μ_5 (pI q_56) ∧ ∀ (v_60 : Int32) (μ_59 : gMem), q_56 v_60 μ_59 → (v_60 = 0 ∨ v_60 = 1) ∧ q v_60 μ_59))) : pt_X5_readLaw_0 l D d q Γ r0 μ := by
  unfold pt_X5_readLaw_0
  refine g_aload_n dX5_readLaw_0 rfl ?_
  refine g_gfR fl_5_29 rfl hr0 dX5_readLaw_1 ?_
  obtain ⟨d_1, q_2, hd_3, hc_4, h⟩ := h
  refine g_cV ca_X5_63 ob_6 hc_4 hd_3 (by decide) (by decide) rfl rfl (by first | exact Nat.le_of_ble_eq_true rfl | decide) dX5_readLaw_4 (kV (fun μ_5 hq_7 => ?_))
  have h := h μ_5 hq_7
  refine g_aload_n dX5_readLaw_7 rfl ?_
  refine g_gfR fl_5_29 rfl hr0 dX5_readLaw_8 ?_
  refine g_gfI fi_5_48 (by decide) dX5_readLaw_11 ?_
  refine g_bipush (8 : Int32) dX5_readLaw_14 rfl ?_
  refine g_bipush (10 : Int32) dX5_readLaw_16 rfl ?_
  obtain ⟨hd_8, h⟩ := h
  refine g_callN ca_X5_164 (c_X9_isWithin (d := 0) (Nat.le_refl _) ) hd_8 (by decide) rfl rfl (by first | exact Nat.le_of_ble_eq_true rfl | decide) dX5_readLaw_18 (kI (fun v_9 μ_10 hq_11 => ?_))
  obtain ⟨ev_9, eμ_10⟩ := hq_11
  subst ev_9
  refine g_mem eμ_10 ?_
  refine g_if_ne (tgt := 30) dX5_readLaw_21 (by decide) (fun c_12 => ?_) (fun c_12 => ?_)
  · have h := h.1 c_12
    refine g_aload_n dX5_readLaw_30 rfl ?_
    refine g_gfR fl_5_29 rfl hr0 dX5_readLaw_31 ?_
    refine g_gfI fi_5_48 (by decide) dX5_readLaw_34 ?_
    refine g_bipush (8 : Int32) dX5_readLaw_37 rfl ?_
    refine g_isub dX5_readLaw_39 ?_
    refine g_istore_n dX5_readLaw_40 (by decide) (fun x1_13 ex1_13 => g_sub (lv' := [(0, .ref (D.2.2 5 r0)), (1, .int x1_13)]) [1, 0] rfl ?_)
    have h := h x1_13 ex1_13
    refine g_aload_n dX5_readLaw_41 rfl ?_
    obtain ⟨hR_14, h⟩ := h
    refine g_gfR5 fl_5_33 (by assumption) hr0 dX5_readLaw_42 ?_
    refine g_gfR fl_5_168 rfl hR_14 dX5_readLaw_45 ?_
    refine g_iload_n dX5_readLaw_48 rfl ?_
    obtain ⟨d_15, q_16, hd_17, hc_18, h⟩ := h
    refine g_cV ca_X5_172 ob_2 hc_18 hd_17 (by decide) hR_14 rfl rfl (by first | exact Nat.le_of_ble_eq_true rfl | decide) dX5_readLaw_49 (kI (fun v_20 μ_19 hq_21 => ?_))
    have h := h v_20 μ_19 hq_21
    refine g_if_eq (tgt := 61) dX5_readLaw_52 (by decide) (fun c_22 => ?_) (fun c_22 => ?_)
    · have h := h.1 c_22
      refine g_aload_n dX5_readLaw_61 rfl ?_
      refine g_gfR fl_5_29 rfl hr0 dX5_readLaw_62 ?_
      obtain ⟨d_23, q_24, hd_25, hc_26, h⟩ := h
      refine g_cV ca_X5_63 ob_6 hc_26 hd_25 (by decide) (by decide) rfl rfl (by first | exact Nat.le_of_ble_eq_true rfl | decide) dX5_readLaw_65 (kV (fun μ_27 hq_29 => ?_))
      have h := h μ_27 hq_29
      refine g_aload_n dX5_readLaw_68 rfl ?_
      refine g_gfR fl_5_12 rfl hr0 dX5_readLaw_69 ?_
      refine g_aload_n dX5_readLaw_72 rfl ?_
      obtain ⟨hR_30, h⟩ := h
      refine g_gfR5 fl_5_33 (by assumption) hr0 dX5_readLaw_73 ?_
      refine g_gfR fl_5_168 rfl hR_30 dX5_readLaw_76 ?_
      refine g_iload_n dX5_readLaw_79 rfl ?_
      refine g_aload_n dX5_readLaw_80 rfl ?_
      refine g_gfR fl_5_29 rfl hr0 dX5_readLaw_81 ?_
      obtain ⟨d_31, q_32, hd_33, hc_34, h⟩ := h
      refine g_cV ca_X5_177 ob_1 hc_34 hd_33 (by decide) (by decide) rfl rfl (by first | exact Nat.le_of_ble_eq_true rfl | decide) dX5_readLaw_84 (kI (fun v_36 μ_35 hq_37 => ?_))
      have h := h v_36 μ_35 hq_37
      refine g_istore_n dX5_readLaw_87 (by decide) (fun x2_38 ex2_38 => g_sub (lv' := [(0, .ref (D.2.2 5 r0)), (2, .int x2_38)]) [1, 0] rfl ?_)
      have h := h x2_38 ex2_38
      refine g_iload_n dX5_readLaw_88 rfl ?_
      refine g_if_eq (tgt := 100) dX5_readLaw_89 (by decide) (fun c_39 => ?_) (fun c_39 => ?_)
      · have h := h.1 c_39
        exact g_sub [] rfl h
      · have h := h.2 c_39
        refine g_aload_n dX5_readLaw_92 rfl ?_
        refine g_iload_n dX5_readLaw_93 rfl ?_
        obtain ⟨d_40, q_41, hd_42, hc_43, h⟩ := h
        refine g_cV ca_X5_59 ob_5 hc_43 hd_42 (by decide) hr0 rfl rfl (by first | exact Nat.le_of_ble_eq_true rfl | decide) dX5_readLaw_94 (kI (fun v_45 μ_44 hq_46 => ?_))
        have h := h v_45 μ_44 hq_46
        refine g_if_eq (tgt := 104) dX5_readLaw_97 (by decide) (fun c_47 => ?_) (fun c_47 => ?_)
        · have h := h.1 c_47
          refine g_iconst (0 : Int32) dX5_readLaw_104 rfl ?_
          exact g_iret dX5_readLaw_105 rfl rfl ⟨_, rfl, h⟩
        · have h := h.2 c_47
          exact g_sub [] rfl h
    · have h := h.2 c_22
      refine g_aload_n dX5_readLaw_55 rfl ?_
      refine g_iconst (3 : Int32) dX5_readLaw_56 rfl ?_
      obtain ⟨d_48, q_49, hd_50, hc_51, h⟩ := h
      refine g_cV ca_X5_59 ob_5 hc_51 hd_50 (by decide) hr0 rfl rfl (by first | exact Nat.le_of_ble_eq_true rfl | decide) dX5_readLaw_57 (kI (fun v_53 μ_52 hq_54 => ?_))
      have h := h v_53 μ_52 hq_54
      obtain ⟨hz9, h⟩ := h
      exact g_iret dX5_readLaw_60 rfl (nar_z hz9).1 ⟨_, rfl, h⟩
  · have h := h.2 c_12
    refine g_aload_n dX5_readLaw_24 rfl ?_
    refine g_iconst (1 : Int32) dX5_readLaw_25 rfl ?_
    obtain ⟨d_55, q_56, hd_57, hc_58, h⟩ := h
    refine g_cV ca_X5_59 ob_5 hc_58 hd_57 (by decide) hr0 rfl rfl (by first | exact Nat.le_of_ble_eq_true rfl | decide) dX5_readLaw_26 (kI (fun v_60 μ_59 hq_61 => ?_))
    have h := h v_60 μ_59 hq_61
    obtain ⟨hz9, h⟩ := h
    exact g_iret dX5_readLaw_29 rfl (nar_z hz9).1 ⟨_, rfl, h⟩
set_option maxRecDepth 20000 in
set_option maxHeartbeats 4000000 in
theorem bl_X5_readLaw_1 {l : Launch} {D : gD} {d : Nat} {q : Int32 → gMem → Prop} {Γ : gC}  {μ : gMem}  (h : q (1 : Int32) μ) : pt_X5_readLaw_1 l D d q Γ  μ := by
  unfold pt_X5_readLaw_1
  refine g_iconst (1 : Int32) dX5_readLaw_100 rfl ?_
  refine g_goto (tgt := 105) dX5_readLaw_101 (by decide) ?_
  exact g_iret dX5_readLaw_105 rfl rfl ⟨_, rfl, h⟩
theorem en_X5_readLaw {l : Launch} {D : gD} {d : Nat} {q : Int32 → gMem → Prop} {r0 : Nat} {μ : gMem} (h : ∀ Γ : gC, pt_X5_readLaw_0 l D d q Γ r0 μ) : Ctr l D d yX5_readLaw cX5_readLaw 3 (some .boolean) [.ref (D.2.2 5 r0)] μ (pI q) :=
  Ctr_of rfl (by decide) (Nat.le_of_ble_eq_true rfl) (fun Γ => g_sub [0] rfl (h Γ))
def pt_X5_readOnce_0 (l : Launch) (D : gD) (d : Nat) (q : Int32 → gMem → Prop) (Γ : gC) (r0 : Nat) (μ : gMem) : Prop := G l D RX5 cX5_readOnce 2 (some .boolean) d (pI q) Γ 0 [(0, .ref (D.2.2 5 r0))] [] μ
set_option maxRecDepth 20000 in
set_option maxHeartbeats 4000000 in
theorem bl_X5_readOnce_0 {l : Launch} {D : gD} {d : Nat} {q : Int32 → gMem → Prop} {Γ : gC} {r0 : Nat} {μ : gMem} (hr0 : r0 < 1) (h : ∀ x1_1 : Int32, x1_1 = (μ.1 6 0 5) - (3 : Int32) → (0 < d) ∧ (((¬ (iw x1_1 (0 : Int32) ((nI 4) - (1 : Int32))) = 0) → ∃ j_7 : Nat, j_7 < 4 ∧ x1_1 = nI j_7 ∧ ((((μ.1 386 r0 j_7) = 0) → ∃ j_9 : Nat, j_9 < 4 ∧ x1_1 = nI j_9 ∧ (∀ μ_10 : gMem, μ_10 = gsI μ 386 r0 j_9 (vp_nar .boolean (1 : Int32)) → ∃ (d_11 : Nat) (q_12 : gMem → Prop), d_11 < d ∧ Ctr l D d_11 yX6_next cX6_next 1 none [.ref (D.2.2 6 0)] μ_10 (pV q_12) ∧ ∀ (μ_15 : gMem), q_12 μ_15 → q (1 : Int32) μ_15)) ∧ ((¬ (μ.1 386 r0 j_7) = 0) → ∃ (d_18 : Nat) (q_19 : Int32 → gMem → Prop), d_18 < d ∧ Ctr l D d_18 yX5_fail cX5_fail 2 (some .boolean) [.ref (D.2.2 5 r0), .int (3 : Int32)] μ (pI q_19) ∧ ∀ (v_23 : Int32) (μ_22 : gMem), q_19 v_23 μ_22 → (v_23 = 0 ∨ v_23 = 1) ∧ q v_23 μ_22))) ∧ (((iw x1_1 (0 : Int32) ((nI 4) - (1 : Int32))) = 0) → ∃ (d_25 : Nat) (q_26 : Int32 → gMem → Prop), d_25 < d ∧ Ctr l D d_25 yX5_fail cX5_fail 2 (some .boolean) [.ref (D.2.2 5 r0), .int (1 : Int32)] μ (pI q_26) ∧ ∀ (v_30 : Int32) (μ_29 : gMem), q_26 v_30 μ_29 → (v_30 = 0 ∨ v_30 = 1) ∧ q v_30 μ_29))) : pt_X5_readOnce_0 l D d q Γ r0 μ := by
  unfold pt_X5_readOnce_0
  refine g_aload_n dX5_readOnce_0 rfl ?_
  refine g_gfR fl_5_29 rfl hr0 dX5_readOnce_1 ?_
  refine g_gfI fi_5_48 (by decide) dX5_readOnce_4 ?_
  refine g_iconst (3 : Int32) dX5_readOnce_7 rfl ?_
  refine g_isub dX5_readOnce_8 ?_
  refine g_istore_n dX5_readOnce_9 (by decide) (fun x1_1 ex1_1 => g_sub (lv' := [(0, .ref (D.2.2 5 r0)), (1, .int x1_1)]) [1, 0] rfl ?_)
  have h := h x1_1 ex1_1
  refine g_iload_n dX5_readOnce_10 rfl ?_
  refine g_iconst (0 : Int32) dX5_readOnce_11 rfl ?_
  refine g_aload_n dX5_readOnce_12 rfl ?_
  refine g_gfR fl_5_18 rfl hr0 dX5_readOnce_13 ?_
  refine g_alen hr0 rfl (by decide) dX5_readOnce_16 ?_
  refine g_iconst (1 : Int32) dX5_readOnce_17 rfl ?_
  refine g_isub dX5_readOnce_18 ?_
  obtain ⟨hd_2, h⟩ := h
  refine g_callN ca_X5_164 (c_X9_isWithin (d := 0) (Nat.le_refl _) ) hd_2 (by decide) rfl rfl (by first | exact Nat.le_of_ble_eq_true rfl | decide) dX5_readOnce_19 (kI (fun v_3 μ_4 hq_5 => ?_))
  obtain ⟨ev_3, eμ_4⟩ := hq_5
  subst ev_3
  refine g_mem eμ_4 ?_
  refine g_if_ne (tgt := 31) dX5_readOnce_22 (by decide) (fun c_6 => ?_) (fun c_6 => ?_)
  · have h := h.1 c_6
    refine g_aload_n dX5_readOnce_31 rfl ?_
    refine g_gfR fl_5_18 rfl hr0 dX5_readOnce_32 ?_
    refine g_iload_n dX5_readOnce_35 rfl ?_
    obtain ⟨j_7, hj_7, ej_7, h⟩ := h
    refine g_zald j_7 hr0 rfl hj_7 (by decide) ej_7 dX5_readOnce_36 ?_
    refine g_if_eq (tgt := 46) dX5_readOnce_37 (by decide) (fun c_8 => ?_) (fun c_8 => ?_)
    · have h := h.1 c_8
      refine g_aload_n dX5_readOnce_46 rfl ?_
      refine g_gfR fl_5_18 rfl hr0 dX5_readOnce_47 ?_
      refine g_iload_n dX5_readOnce_50 rfl ?_
      refine g_iconst (1 : Int32) dX5_readOnce_51 rfl ?_
      obtain ⟨j_9, hj_9, ej_9, h⟩ := h
      refine g_zast j_9 hr0 rfl hj_9 (by decide) ej_9 dX5_readOnce_52 ?_
      obtain ⟨μ_10, eμ_10⟩ : ∃ z : gMem, z = gsI μ 386 r0 j_9 (vp_nar .boolean (1 : Int32)) := ⟨_, rfl⟩
      have h := h μ_10 eμ_10
      refine g_mem eμ_10.symm ?_
      refine g_aload_n dX5_readOnce_53 rfl ?_
      refine g_gfR fl_5_29 rfl hr0 dX5_readOnce_54 ?_
      obtain ⟨d_11, q_12, hd_13, hc_14, h⟩ := h
      refine g_cV ca_X5_63 ob_6 hc_14 hd_13 (by decide) (by decide) rfl rfl (by first | exact Nat.le_of_ble_eq_true rfl | decide) dX5_readOnce_57 (kV (fun μ_15 hq_17 => ?_))
      have h := h μ_15 hq_17
      refine g_iconst (1 : Int32) dX5_readOnce_60 rfl ?_
      exact g_iret dX5_readOnce_61 rfl rfl ⟨_, rfl, h⟩
    · have h := h.2 c_8
      refine g_aload_n dX5_readOnce_40 rfl ?_
      refine g_iconst (3 : Int32) dX5_readOnce_41 rfl ?_
      obtain ⟨d_18, q_19, hd_20, hc_21, h⟩ := h
      refine g_cV ca_X5_59 ob_5 hc_21 hd_20 (by decide) hr0 rfl rfl (by first | exact Nat.le_of_ble_eq_true rfl | decide) dX5_readOnce_42 (kI (fun v_23 μ_22 hq_24 => ?_))
      have h := h v_23 μ_22 hq_24
      obtain ⟨hz9, h⟩ := h
      exact g_iret dX5_readOnce_45 rfl (nar_z hz9).1 ⟨_, rfl, h⟩
  · have h := h.2 c_6
    refine g_aload_n dX5_readOnce_25 rfl ?_
    refine g_iconst (1 : Int32) dX5_readOnce_26 rfl ?_
    obtain ⟨d_25, q_26, hd_27, hc_28, h⟩ := h
    refine g_cV ca_X5_59 ob_5 hc_28 hd_27 (by decide) hr0 rfl rfl (by first | exact Nat.le_of_ble_eq_true rfl | decide) dX5_readOnce_27 (kI (fun v_30 μ_29 hq_31 => ?_))
    have h := h v_30 μ_29 hq_31
    obtain ⟨hz9, h⟩ := h
    exact g_iret dX5_readOnce_30 rfl (nar_z hz9).1 ⟨_, rfl, h⟩
theorem en_X5_readOnce {l : Launch} {D : gD} {d : Nat} {q : Int32 → gMem → Prop} {r0 : Nat} {μ : gMem} (h : ∀ Γ : gC, pt_X5_readOnce_0 l D d q Γ r0 μ) : Ctr l D d yX5_readOnce cX5_readOnce 2 (some .boolean) [.ref (D.2.2 5 r0)] μ (pI q) :=
  Ctr_of rfl (by decide) (Nat.le_of_ble_eq_true rfl) (fun Γ => g_sub [0] rfl (h Γ))
def pt_X5_readNumber_0 (l : Launch) (D : gD) (d : Nat) (q : Int32 → gMem → Prop) (Γ : gC) (r0 : Nat) (x1 : Int32) (x2 : Int32) (μ : gMem) : Prop := G l D RX5 cX5_readNumber 3 (some .boolean) d (pI q) Γ 0 [(0, .ref (D.2.2 5 r0)), (1, .int x1), (2, .int x2)] [] μ
set_option maxRecDepth 20000 in
set_option maxHeartbeats 4000000 in
theorem bl_X5_readNumber_0 {l : Launch} {D : gD} {d : Nat} {q : Int32 → gMem → Prop} {Γ : gC} {r0 : Nat} {x1 : Int32} {x2 : Int32} {μ : gMem} (hr0 : r0 < 1) (h : (((μ.1 6 0 5) = (34 : Int32)) → (0 < d) ∧ (((¬ (iw (μ.1 6 0 7) x1 x2) = 0) → ∀ μ_7 : gMem, μ_7 = gsI μ 5 r0 4 (μ.1 6 0 7) → ∃ (d_8 : Nat) (q_9 : gMem → Prop), d_8 < d ∧ Ctr l D d_8 yX6_next cX6_next 1 none [.ref (D.2.2 6 0)] μ_7 (pV q_9) ∧ ∀ (μ_12 : gMem), q_9 μ_12 → q (1 : Int32) μ_12) ∧ (((iw (μ.1 6 0 7) x1 x2) = 0) → ∃ (d_15 : Nat) (q_16 : Int32 → gMem → Prop), d_15 < d ∧ Ctr l D d_15 yX5_fail cX5_fail 2 (some .boolean) [.ref (D.2.2 5 r0), .int (2 : Int32)] μ (pI q_16) ∧ ∀ (v_20 : Int32) (μ_19 : gMem), q_16 v_20 μ_19 → (v_20 = 0 ∨ v_20 = 1) ∧ q v_20 μ_19))) ∧ ((¬ (μ.1 6 0 5) = (34 : Int32)) → ∃ (d_22 : Nat) (q_23 : Int32 → gMem → Prop), d_22 < d ∧ Ctr l D d_22 yX5_fail cX5_fail 2 (some .boolean) [.ref (D.2.2 5 r0), .int (1 : Int32)] μ (pI q_23) ∧ ∀ (v_27 : Int32) (μ_26 : gMem), q_23 v_27 μ_26 → (v_27 = 0 ∨ v_27 = 1) ∧ q v_27 μ_26)) : pt_X5_readNumber_0 l D d q Γ r0 x1 x2 μ := by
  unfold pt_X5_readNumber_0
  refine g_aload_n dX5_readNumber_0 rfl ?_
  refine g_gfR fl_5_29 rfl hr0 dX5_readNumber_1 ?_
  refine g_gfI fi_5_48 (by decide) dX5_readNumber_4 ?_
  refine g_bipush (34 : Int32) dX5_readNumber_7 rfl ?_
  refine g_icmp_eq (tgt := 18) dX5_readNumber_9 (by decide) (fun c_1 => ?_) (fun c_1 => ?_)
  · have h := h.1 c_1
    refine g_aload_n dX5_readNumber_18 rfl ?_
    refine g_gfR fl_5_29 rfl hr0 dX5_readNumber_19 ?_
    refine g_gfI fi_5_181 (by decide) dX5_readNumber_22 ?_
    refine g_iload_n dX5_readNumber_25 rfl ?_
    refine g_iload_n dX5_readNumber_26 rfl ?_
    obtain ⟨hd_2, h⟩ := h
    refine g_callN ca_X5_164 (c_X9_isWithin (d := 0) (Nat.le_refl _) ) hd_2 (by decide) rfl rfl (by first | exact Nat.le_of_ble_eq_true rfl | decide) dX5_readNumber_27 (kI (fun v_3 μ_4 hq_5 => ?_))
    obtain ⟨ev_3, eμ_4⟩ := hq_5
    subst ev_3
    refine g_mem eμ_4 ?_
    refine g_if_ne (tgt := 39) dX5_readNumber_30 (by decide) (fun c_6 => ?_) (fun c_6 => ?_)
    · have h := h.1 c_6
      refine g_aload_n dX5_readNumber_39 rfl ?_
      refine g_aload_n dX5_readNumber_40 rfl ?_
      refine g_gfR fl_5_29 rfl hr0 dX5_readNumber_41 ?_
      refine g_gfI fi_5_181 (by decide) dX5_readNumber_44 ?_
      refine g_pfI fi_5_108 hr0 rfl rfl dX5_readNumber_47 ?_
      obtain ⟨μ_7, eμ_7⟩ : ∃ z : gMem, z = gsI μ 5 r0 4 (μ.1 6 0 7) := ⟨_, rfl⟩
      have h := h μ_7 eμ_7
      refine g_mem eμ_7.symm ?_
      refine g_aload_n dX5_readNumber_50 rfl ?_
      refine g_gfR fl_5_29 rfl hr0 dX5_readNumber_51 ?_
      obtain ⟨d_8, q_9, hd_10, hc_11, h⟩ := h
      refine g_cV ca_X5_63 ob_6 hc_11 hd_10 (by decide) (by decide) rfl rfl (by first | exact Nat.le_of_ble_eq_true rfl | decide) dX5_readNumber_54 (kV (fun μ_12 hq_14 => ?_))
      have h := h μ_12 hq_14
      refine g_iconst (1 : Int32) dX5_readNumber_57 rfl ?_
      exact g_iret dX5_readNumber_58 rfl rfl ⟨_, rfl, h⟩
    · have h := h.2 c_6
      refine g_aload_n dX5_readNumber_33 rfl ?_
      refine g_iconst (2 : Int32) dX5_readNumber_34 rfl ?_
      obtain ⟨d_15, q_16, hd_17, hc_18, h⟩ := h
      refine g_cV ca_X5_59 ob_5 hc_18 hd_17 (by decide) hr0 rfl rfl (by first | exact Nat.le_of_ble_eq_true rfl | decide) dX5_readNumber_35 (kI (fun v_20 μ_19 hq_21 => ?_))
      have h := h v_20 μ_19 hq_21
      obtain ⟨hz9, h⟩ := h
      exact g_iret dX5_readNumber_38 rfl (nar_z hz9).1 ⟨_, rfl, h⟩
  · have h := h.2 c_1
    refine g_aload_n dX5_readNumber_12 rfl ?_
    refine g_iconst (1 : Int32) dX5_readNumber_13 rfl ?_
    obtain ⟨d_22, q_23, hd_24, hc_25, h⟩ := h
    refine g_cV ca_X5_59 ob_5 hc_25 hd_24 (by decide) hr0 rfl rfl (by first | exact Nat.le_of_ble_eq_true rfl | decide) dX5_readNumber_14 (kI (fun v_27 μ_26 hq_28 => ?_))
    have h := h v_27 μ_26 hq_28
    obtain ⟨hz9, h⟩ := h
    exact g_iret dX5_readNumber_17 rfl (nar_z hz9).1 ⟨_, rfl, h⟩
theorem en_X5_readNumber {l : Launch} {D : gD} {d : Nat} {q : Int32 → gMem → Prop} {r0 : Nat} {x1 : Int32} {x2 : Int32} {μ : gMem} (h : ∀ Γ : gC, pt_X5_readNumber_0 l D d q Γ r0 x1 x2 μ) : Ctr l D d yX5_readNumber cX5_readNumber 3 (some .boolean) [.ref (D.2.2 5 r0), .int x1, .int x2] μ (pI q) :=
  Ctr_of rfl (by decide) (Nat.le_of_ble_eq_true rfl) (fun Γ => g_sub [0, 1, 2] rfl (h Γ))
def pt_X5_readNewName_0 (l : Launch) (D : gD) (d : Nat) (q : Int32 → gMem → Prop) (Γ : gC) (r0 : Nat) (k1 : Nat) (i1 : Nat) (x2 : Int32) (μ : gMem) : Prop := G l D RX5 cX5_readNewName 3 (some .boolean) d (pI q) Γ 0 [(0, .ref (D.2.2 5 r0)), (1, .ref (D.2.2 k1 i1)), (2, .int x2)] [] μ
def pt_X5_readNewName_1 (l : Launch) (D : gD) (d : Nat) (q : Int32 → gMem → Prop) (Γ : gC) (r0 : Nat) (μ : gMem) : Prop := G l D RX5 cX5_readNewName 3 (some .boolean) d (pI q) Γ 56 [(0, .ref (D.2.2 5 r0))] [] μ
set_option maxRecDepth 20000 in
set_option maxHeartbeats 4000000 in
theorem bl_X5_readNewName_0 {l : Launch} {D : gD} {d : Nat} {q : Int32 → gMem → Prop} {Γ : gC} {r0 : Nat} {k1 : Nat} {i1 : Nat} {x2 : Int32} {μ : gMem} (hr0 : r0 < 1) (hk1 : gsh k1 = (1, (gsh k1).2.1, 0)) (hi1 : i1 < gkn k1) (h : (((μ.1 6 0 5) = (35 : Int32)) → ∃ (d_2 : Nat) (q_3 : Int32 → gMem → Prop), d_2 < d ∧ Ctr l D d_2 yX9_placeOf cX9_placeOf 4 (some .int) [.int (μ.1 6 0 7), .ref (D.2.2 k1 i1), .int x2] μ (pI q_3) ∧ ∀ (v_7 : Int32) (μ_6 : gMem), q_3 v_7 μ_6 → ((v_7 = (-1 : Int32)) → (((nI (gsh k1).2.1) ≤ x2) → pt_X5_readNewName_1 l D d q Γ r0 μ_6) ∧ ((¬ (nI (gsh k1).2.1) ≤ x2) → ∃ j_11 : Nat, j_11 < (gsh k1).2.1 ∧ (gsh k1).2.1 < 2 ^ 31 ∧ x2 = nI j_11 ∧ (∀ μ_12 : gMem, μ_12 = gsI μ_6 k1 i1 j_11 (μ_6.1 6 0 7) → pt_X5_readNewName_1 l D d q Γ r0 μ_12))) ∧ ((¬ v_7 = (-1 : Int32)) → ∃ (d_14 : Nat) (q_15 : Int32 → gMem → Prop), d_14 < d ∧ Ctr l D d_14 yX5_fail cX5_fail 2 (some .boolean) [.ref (D.2.2 5 r0), .int (3 : Int32)] μ_6 (pI q_15) ∧ ∀ (v_19 : Int32) (μ_18 : gMem), q_15 v_19 μ_18 → (v_19 = 0 ∨ v_19 = 1) ∧ q v_19 μ_18)) ∧ ((¬ (μ.1 6 0 5) = (35 : Int32)) → ∃ (d_21 : Nat) (q_22 : Int32 → gMem → Prop), d_21 < d ∧ Ctr l D d_21 yX5_fail cX5_fail 2 (some .boolean) [.ref (D.2.2 5 r0), .int (1 : Int32)] μ (pI q_22) ∧ ∀ (v_26 : Int32) (μ_25 : gMem), q_22 v_26 μ_25 → (v_26 = 0 ∨ v_26 = 1) ∧ q v_26 μ_25)) : pt_X5_readNewName_0 l D d q Γ r0 k1 i1 x2 μ := by
  unfold pt_X5_readNewName_0
  refine g_aload_n dX5_readNewName_0 rfl ?_
  refine g_gfR fl_5_29 rfl hr0 dX5_readNewName_1 ?_
  refine g_gfI fi_5_48 (by decide) dX5_readNewName_4 ?_
  refine g_bipush (35 : Int32) dX5_readNewName_7 rfl ?_
  refine g_icmp_eq (tgt := 18) dX5_readNewName_9 (by decide) (fun c_1 => ?_) (fun c_1 => ?_)
  · have h := h.1 c_1
    refine g_aload_n dX5_readNewName_18 rfl ?_
    refine g_gfR fl_5_29 rfl hr0 dX5_readNewName_19 ?_
    refine g_gfI fi_5_181 (by decide) dX5_readNewName_22 ?_
    refine g_aload_n dX5_readNewName_25 rfl ?_
    refine g_iload_n dX5_readNewName_26 rfl ?_
    obtain ⟨d_2, q_3, hd_4, hc_5, h⟩ := h
    refine g_callN ca_X5_184 hc_5 hd_4 (by decide) rfl rfl (by first | exact Nat.le_of_ble_eq_true rfl | decide) dX5_readNewName_27 (kI (fun v_7 μ_6 hq_8 => ?_))
    have h := h v_7 μ_6 hq_8
    refine g_iconst (-1 : Int32) dX5_readNewName_30 rfl ?_
    refine g_icmp_eq (tgt := 40) dX5_readNewName_31 (by decide) (fun c_9 => ?_) (fun c_9 => ?_)
    · have h := h.1 c_9
      refine g_iload_n dX5_readNewName_40 rfl ?_
      refine g_aload_n dX5_readNewName_41 rfl ?_
      refine g_alen hi1 hk1 (Or.inl rfl) dX5_readNewName_42 ?_
      refine g_icmp_ge (tgt := 56) dX5_readNewName_43 (by decide) (fun c_10 => ?_) (fun c_10 => ?_)
      · have h := h.1 c_10
        exact g_sub [0] rfl h
      · have h := h.2 c_10
        refine g_aload_n dX5_readNewName_46 rfl ?_
        refine g_iload_n dX5_readNewName_47 rfl ?_
        refine g_aload_n dX5_readNewName_48 rfl ?_
        refine g_gfR fl_5_29 rfl hr0 dX5_readNewName_49 ?_
        refine g_gfI fi_5_181 (by decide) dX5_readNewName_52 ?_
        obtain ⟨j_11, hj_11, hn_13, ej_11, h⟩ := h
        refine g_iast j_11 hi1 hk1 hj_11 hn_13 ej_11 dX5_readNewName_55 ?_
        obtain ⟨μ_12, eμ_12⟩ : ∃ z : gMem, z = gsI μ_6 k1 i1 j_11 (μ_6.1 6 0 7) := ⟨_, rfl⟩
        have h := h μ_12 eμ_12
        refine g_mem eμ_12.symm ?_
        exact g_sub [0] rfl h
    · have h := h.2 c_9
      refine g_aload_n dX5_readNewName_34 rfl ?_
      refine g_iconst (3 : Int32) dX5_readNewName_35 rfl ?_
      obtain ⟨d_14, q_15, hd_16, hc_17, h⟩ := h
      refine g_cV ca_X5_59 ob_5 hc_17 hd_16 (by decide) hr0 rfl rfl (by first | exact Nat.le_of_ble_eq_true rfl | decide) dX5_readNewName_36 (kI (fun v_19 μ_18 hq_20 => ?_))
      have h := h v_19 μ_18 hq_20
      obtain ⟨hz9, h⟩ := h
      exact g_iret dX5_readNewName_39 rfl (nar_z hz9).1 ⟨_, rfl, h⟩
  · have h := h.2 c_1
    refine g_aload_n dX5_readNewName_12 rfl ?_
    refine g_iconst (1 : Int32) dX5_readNewName_13 rfl ?_
    obtain ⟨d_21, q_22, hd_23, hc_24, h⟩ := h
    refine g_cV ca_X5_59 ob_5 hc_24 hd_23 (by decide) hr0 rfl rfl (by first | exact Nat.le_of_ble_eq_true rfl | decide) dX5_readNewName_14 (kI (fun v_26 μ_25 hq_27 => ?_))
    have h := h v_26 μ_25 hq_27
    obtain ⟨hz9, h⟩ := h
    exact g_iret dX5_readNewName_17 rfl (nar_z hz9).1 ⟨_, rfl, h⟩
set_option maxRecDepth 20000 in
set_option maxHeartbeats 4000000 in
theorem bl_X5_readNewName_1 {l : Launch} {D : gD} {d : Nat} {q : Int32 → gMem → Prop} {Γ : gC} {r0 : Nat} {μ : gMem} (hr0 : r0 < 1) (h : ∃ (d_1 : Nat) (q_2 : gMem → Prop), d_1 < d ∧ Ctr l D d_1 yX6_next cX6_next 1 none [.ref (D.2.2 6 0)] μ (pV q_2) ∧ ∀ (μ_5 : gMem), q_2 μ_5 → q (1 : Int32) μ_5) : pt_X5_readNewName_1 l D d q Γ r0 μ := by
  unfold pt_X5_readNewName_1
  refine g_aload_n dX5_readNewName_56 rfl ?_
  refine g_gfR fl_5_29 rfl hr0 dX5_readNewName_57 ?_
  obtain ⟨d_1, q_2, hd_3, hc_4, h⟩ := h
  refine g_cV ca_X5_63 ob_6 hc_4 hd_3 (by decide) (by decide) rfl rfl (by first | exact Nat.le_of_ble_eq_true rfl | decide) dX5_readNewName_60 (kV (fun μ_5 hq_7 => ?_))
  have h := h μ_5 hq_7
  refine g_iconst (1 : Int32) dX5_readNewName_63 rfl ?_
  exact g_iret dX5_readNewName_64 rfl rfl ⟨_, rfl, h⟩
theorem en_X5_readNewName {l : Launch} {D : gD} {d : Nat} {q : Int32 → gMem → Prop} {r0 : Nat} {k1 : Nat} {i1 : Nat} {x2 : Int32} {μ : gMem} (h : ∀ Γ : gC, pt_X5_readNewName_0 l D d q Γ r0 k1 i1 x2 μ) : Ctr l D d yX5_readNewName cX5_readNewName 3 (some .boolean) [.ref (D.2.2 5 r0), .ref (D.2.2 k1 i1), .int x2] μ (pI q) :=
  Ctr_of rfl (by decide) (Nat.le_of_ble_eq_true rfl) (fun Γ => g_sub [0, 1, 2] rfl (h Γ))
def pt_X5_findName_0 (l : Launch) (D : gD) (d : Nat) (q : Int32 → gMem → Prop) (Γ : gC) (r0 : Nat) (k1 : Nat) (i1 : Nat) (x2 : Int32) (μ : gMem) : Prop := G l D RX5 cX5_findName 4 (some .int) d (pI q) Γ 0 [(0, .ref (D.2.2 5 r0)), (1, .ref (D.2.2 k1 i1)), (2, .int x2)] [] μ
set_option maxRecDepth 20000 in
set_option maxHeartbeats 4000000 in
theorem bl_X5_findName_0 {l : Launch} {D : gD} {d : Nat} {q : Int32 → gMem → Prop} {Γ : gC} {r0 : Nat} {k1 : Nat} {i1 : Nat} {x2 : Int32} {μ : gMem} (hr0 : r0 < 1) (hk1 : gsh k1 = (1, (gsh k1).2.1, 0)) (hi1 : i1 < gkn k1) (h : (((μ.1 6 0 5) = (35 : Int32)) → ∃ (d_2 : Nat) (q_3 : Int32 → gMem → Prop), d_2 < d ∧ Ctr l D d_2 yX9_placeOf cX9_placeOf 4 (some .int) [.int (μ.1 6 0 7), .ref (D.2.2 k1 i1), .int x2] μ (pI q_3) ∧ ∀ (v_7 : Int32) (μ_6 : gMem), q_3 v_7 μ_6 → ∀ x3_9 : Int32, x3_9 = v_7 → ((¬ x3_9 = (-1 : Int32)) → q x3_9 μ_6) ∧ ((x3_9 = (-1 : Int32)) → ∃ (d_11 : Nat) (q_12 : Int32 → gMem → Prop), d_11 < d ∧ Ctr l D d_11 yX5_fail cX5_fail 2 (some .boolean) [.ref (D.2.2 5 r0), .int (4 : Int32)] μ_6 (pI q_12) ∧ ∀ (v_16 : Int32) (μ_15 : gMem), q_12 v_16 μ_15 → q x3_9 μ_15)) ∧ ((¬ (μ.1 6 0 5) = (35 : Int32)) → ∃ (d_18 : Nat) (q_19 : Int32 → gMem → Prop), d_18 < d ∧ Ctr l D d_18 yX5_fail cX5_fail 2 (some .boolean) [.ref (D.2.2 5 r0), .int (1 : Int32)] μ (pI q_19) ∧ ∀ (v_23 : Int32) (μ_22 : gMem), q_19 v_23 μ_22 → q (-1 : Int32) μ_22)) : pt_X5_findName_0 l D d q Γ r0 k1 i1 x2 μ := by
  unfold pt_X5_findName_0
  refine g_aload_n dX5_findName_0 rfl ?_
  refine g_gfR fl_5_29 rfl hr0 dX5_findName_1 ?_
  refine g_gfI fi_5_48 (by decide) dX5_findName_4 ?_
  refine g_bipush (35 : Int32) dX5_findName_7 rfl ?_
  refine g_icmp_eq (tgt := 20) dX5_findName_9 (by decide) (fun c_1 => ?_) (fun c_1 => ?_)
  · have h := h.1 c_1
    refine g_aload_n dX5_findName_20 rfl ?_
    refine g_gfR fl_5_29 rfl hr0 dX5_findName_21 ?_
    refine g_gfI fi_5_181 (by decide) dX5_findName_24 ?_
    refine g_aload_n dX5_findName_27 rfl ?_
    refine g_iload_n dX5_findName_28 rfl ?_
    obtain ⟨d_2, q_3, hd_4, hc_5, h⟩ := h
    refine g_callN ca_X5_184 hc_5 hd_4 (by decide) rfl rfl (by first | exact Nat.le_of_ble_eq_true rfl | decide) dX5_findName_29 (kI (fun v_7 μ_6 hq_8 => ?_))
    have h := h v_7 μ_6 hq_8
    refine g_istore_n dX5_findName_32 (by decide) (fun x3_9 ex3_9 => g_sub (lv' := [(0, .ref (D.2.2 5 r0)), (3, .int x3_9)]) [1, 0] rfl ?_)
    have h := h x3_9 ex3_9
    refine g_iload_n dX5_findName_33 rfl ?_
    refine g_iconst (-1 : Int32) dX5_findName_34 rfl ?_
    refine g_icmp_ne (tgt := 44) dX5_findName_35 (by decide) (fun c_10 => ?_) (fun c_10 => ?_)
    · have h := h.1 c_10
      refine g_iload_n dX5_findName_44 rfl ?_
      exact g_iret dX5_findName_45 rfl rfl ⟨_, rfl, h⟩
    · have h := h.2 c_10
      refine g_aload_n dX5_findName_38 rfl ?_
      refine g_iconst (4 : Int32) dX5_findName_39 rfl ?_
      obtain ⟨d_11, q_12, hd_13, hc_14, h⟩ := h
      refine g_cV ca_X5_59 ob_5 hc_14 hd_13 (by decide) hr0 rfl rfl (by first | exact Nat.le_of_ble_eq_true rfl | decide) dX5_findName_40 (kI (fun v_16 μ_15 hq_17 => ?_))
      have h := h v_16 μ_15 hq_17
      refine g_pop dX5_findName_43 rfl ?_
      refine g_iload_n dX5_findName_44 rfl ?_
      exact g_iret dX5_findName_45 rfl rfl ⟨_, rfl, h⟩
  · have h := h.2 c_1
    refine g_aload_n dX5_findName_12 rfl ?_
    refine g_iconst (1 : Int32) dX5_findName_13 rfl ?_
    obtain ⟨d_18, q_19, hd_20, hc_21, h⟩ := h
    refine g_cV ca_X5_59 ob_5 hc_21 hd_20 (by decide) hr0 rfl rfl (by first | exact Nat.le_of_ble_eq_true rfl | decide) dX5_findName_14 (kI (fun v_23 μ_22 hq_24 => ?_))
    have h := h v_23 μ_22 hq_24
    refine g_pop dX5_findName_17 rfl ?_
    refine g_iconst (-1 : Int32) dX5_findName_18 rfl ?_
    exact g_iret dX5_findName_19 rfl rfl ⟨_, rfl, h⟩
theorem en_X5_findName {l : Launch} {D : gD} {d : Nat} {q : Int32 → gMem → Prop} {r0 : Nat} {k1 : Nat} {i1 : Nat} {x2 : Int32} {μ : gMem} (h : ∀ Γ : gC, pt_X5_findName_0 l D d q Γ r0 k1 i1 x2 μ) : Ctr l D d yX5_findName cX5_findName 4 (some .int) [.ref (D.2.2 5 r0), .ref (D.2.2 k1 i1), .int x2] μ (pI q) :=
  Ctr_of rfl (by decide) (Nat.le_of_ble_eq_true rfl) (fun Γ => g_sub [0, 1, 2] rfl (h Γ))
def pt_X6_hasRoom_0 (l : Launch) (D : gD) (d : Nat) (q : Int32 → gMem → Prop) (Γ : gC) (r0 : Nat) (μ : gMem) : Prop := G l D RX6 cX6_hasRoom 1 (some .boolean) d (pI q) Γ 0 [(0, .ref (D.2.2 6 r0))] [] μ
set_option maxRecDepth 20000 in
set_option maxHeartbeats 4000000 in
theorem bl_X6_hasRoom_0 {l : Launch} {D : gD} {d : Nat} {q : Int32 → gMem → Prop} {Γ : gC} {r0 : Nat} {μ : gMem} (hr0 : r0 < 1) (h : (((700 : Int32) < ((μ.1 6 r0 2) + (20 : Int32))) → q (0 : Int32) μ) ∧ ((¬ (700 : Int32) < ((μ.1 6 r0 2) + (20 : Int32))) → q (1 : Int32) μ)) : pt_X6_hasRoom_0 l D d q Γ r0 μ := by
  unfold pt_X6_hasRoom_0
  refine g_aload_n dX6_hasRoom_0 rfl ?_
  refine g_gfI fi_6_35 hr0 dX6_hasRoom_1 ?_
  refine g_bipush (20 : Int32) dX6_hasRoom_4 rfl ?_
  refine g_iadd dX6_hasRoom_6 ?_
  refine g_sipush (700 : Int32) dX6_hasRoom_7 rfl ?_
  refine g_icmp_gt (tgt := 17) dX6_hasRoom_10 (by decide) (fun c_1 => ?_) (fun c_1 => ?_)
  · have h := h.1 c_1
    refine g_iconst (0 : Int32) dX6_hasRoom_17 rfl ?_
    exact g_iret dX6_hasRoom_18 rfl rfl ⟨_, rfl, h⟩
  · have h := h.2 c_1
    refine g_iconst (1 : Int32) dX6_hasRoom_13 rfl ?_
    refine g_goto (tgt := 18) dX6_hasRoom_14 (by decide) ?_
    exact g_iret dX6_hasRoom_18 rfl rfl ⟨_, rfl, h⟩
theorem en_X6_hasRoom {l : Launch} {D : gD} {d : Nat} {q : Int32 → gMem → Prop} {r0 : Nat} {μ : gMem} (h : ∀ Γ : gC, pt_X6_hasRoom_0 l D d q Γ r0 μ) : Ctr l D d yX6_hasRoom cX6_hasRoom 1 (some .boolean) [.ref (D.2.2 6 r0)] μ (pI q) :=
  Ctr_of rfl (by decide) (Nat.le_of_ble_eq_true rfl) (fun Γ => g_sub [0] rfl (h Γ))
def pt_X6_append_0 (l : Launch) (D : gD) (d : Nat) (q : gMem → Prop) (Γ : gC) (r0 : Nat) (x1 : Int32) (μ : gMem) : Prop := G l D RX6 cX6_append 3 none d (pV q) Γ 0 [(0, .ref (D.2.2 6 r0)), (1, .int x1)] [] μ
def pt_X6_append_1 (l : Launch) (D : gD) (d : Nat) (q : gMem → Prop) (Γ : gC) (r0 : Nat) (x1 : Int32) (x2 : Int32) (μ : gMem) : Prop := G l D RX6 cX6_append 3 none d (pV q) Γ 3 [(0, .ref (D.2.2 6 r0)), (1, .int x1), (2, .int x2)] [] μ
set_option maxRecDepth 20000 in
set_option maxHeartbeats 4000000 in
theorem bl_X6_append_0 {l : Launch} {D : gD} {d : Nat} {q : gMem → Prop} {Γ : gC} {r0 : Nat} {x1 : Int32} {μ : gMem} (hr0 : r0 < 1) (h : ∀ x2_1 : Int32, x2_1 = (24 : Int32) → pt_X6_append_1 l D d q Γ r0 x1 x2_1 μ) : pt_X6_append_0 l D d q Γ r0 x1 μ := by
  unfold pt_X6_append_0
  refine g_bipush (24 : Int32) dX6_append_0 rfl ?_
  refine g_istore_n dX6_append_2 (by decide) (fun x2_1 ex2_1 => g_sub (lv' := [(0, .ref (D.2.2 6 r0)), (1, .int x1), (2, .int x2_1)]) [1, 2, 0] rfl ?_)
  have h := h x2_1 ex2_1
  exact g_sub [0, 1, 2] rfl h
set_option maxRecDepth 20000 in
set_option maxHeartbeats 4000000 in
theorem bl_X6_append_1 {l : Launch} {D : gD} {d : Nat} {q : gMem → Prop} {Γ : gC} {r0 : Nat} {x1 : Int32} {x2 : Int32} {μ : gMem} (hr0 : r0 < 1) (h : ((x2 < 0) → q μ) ∧ ((¬ x2 < 0) → (((700 : Int32) ≤ (μ.1 6 r0 2)) → q μ) ∧ ((¬ (700 : Int32) ≤ (μ.1 6 r0 2)) → ∃ j_3 : Nat, j_3 < 700 ∧ μ.1 6 r0 2 = nI j_3 ∧ (∀ μ_4 : gMem, μ_4 = gsI μ 448 r0 j_3 (vp_nar .byte (((x1.toUInt32 >>> (x2.toUInt32 &&& Int32.toUInt32 31)).toInt32).toInt8.toInt32)) → ∀ μ_5 : gMem, μ_5 = gsI μ_4 6 r0 2 ((μ_4.1 6 r0 2) + (1 : Int32)) → ∀ x2_6 : Int32, x2_6 = x2 + (-8 : Int32) → pt_X6_append_1 l D d q Γ r0 x1 x2_6 μ_5)))) : pt_X6_append_1 l D d q Γ r0 x1 x2 μ := by
  unfold pt_X6_append_1
  refine g_iload_n dX6_append_3 rfl ?_
  refine g_if_lt (tgt := 46) dX6_append_4 (by decide) (fun c_1 => ?_) (fun c_1 => ?_)
  · have h := h.1 c_1
    exact g_vret dX6_append_46 rfl ⟨rfl, h⟩
  · have h := h.2 c_1
    refine g_aload_n dX6_append_7 rfl ?_
    refine g_gfI fi_6_35 hr0 dX6_append_8 ?_
    refine g_sipush (700 : Int32) dX6_append_11 rfl ?_
    refine g_icmp_ge (tgt := 46) dX6_append_14 (by decide) (fun c_2 => ?_) (fun c_2 => ?_)
    · have h := h.1 c_2
      exact g_vret dX6_append_46 rfl ⟨rfl, h⟩
    · have h := h.2 c_2
      refine g_aload_n dX6_append_17 rfl ?_
      refine g_gfR fl_6_9 rfl hr0 dX6_append_18 ?_
      refine g_aload_n dX6_append_21 rfl ?_
      refine g_gfI fi_6_35 hr0 dX6_append_22 ?_
      refine g_iload_n dX6_append_25 rfl ?_
      refine g_iload_n dX6_append_26 rfl ?_
      refine g_iushr dX6_append_27 ?_
      refine g_i2b dX6_append_28 ?_
      obtain ⟨j_3, hj_3, ej_3, h⟩ := h
      refine g_bast j_3 hr0 rfl hj_3 (by decide) ej_3 dX6_append_29 ?_
      obtain ⟨μ_4, eμ_4⟩ : ∃ z : gMem, z = gsI μ 448 r0 j_3 (vp_nar .byte (((x1.toUInt32 >>> (x2.toUInt32 &&& Int32.toUInt32 31)).toInt32).toInt8.toInt32)) := ⟨_, rfl⟩
      have h := h μ_4 eμ_4
      refine g_mem eμ_4.symm ?_
      refine g_aload_n dX6_append_30 rfl ?_
      refine g_dup dX6_append_31 rfl ?_
      refine g_gfI fi_6_35 hr0 dX6_append_32 ?_
      refine g_iconst (1 : Int32) dX6_append_35 rfl ?_
      refine g_iadd dX6_append_36 ?_
      refine g_pfI fi_6_35 hr0 rfl rfl dX6_append_37 ?_
      obtain ⟨μ_5, eμ_5⟩ : ∃ z : gMem, z = gsI μ_4 6 r0 2 ((μ_4.1 6 r0 2) + (1 : Int32)) := ⟨_, rfl⟩
      have h := h μ_5 eμ_5
      refine g_mem eμ_5.symm ?_
      refine g_iinc dX6_append_40 rfl (by decide) (fun x2_6 ex2_6 => g_sub (lv' := [(0, .ref (D.2.2 6 r0)), (1, .int x1), (2, .int x2_6)]) [1, 2, 0] rfl ?_)
      have h := h x2_6 ex2_6
      refine g_goto (tgt := 3) dX6_append_43 (by decide) ?_
      exact g_sub [0, 1, 2] rfl h
theorem en_X6_append {l : Launch} {D : gD} {d : Nat} {q : gMem → Prop} {r0 : Nat} {x1 : Int32} {μ : gMem} (h : ∀ Γ : gC, pt_X6_append_0 l D d q Γ r0 x1 μ) : Ctr l D d yX6_append cX6_append 3 none [.ref (D.2.2 6 r0), .int x1] μ (pV q) :=
  Ctr_of rfl (by decide) (Nat.le_of_ble_eq_true rfl) (fun Γ => g_sub [0, 1] rfl (h Γ))
def pt_X6_begin_0 (l : Launch) (D : gD) (d : Nat) (q : gMem → Prop) (Γ : gC) (r0 : Nat) (x1 : Int32) (μ : gMem) : Prop := G l D RX6 cX6_begin 2 none d (pV q) Γ 0 [(0, .ref (D.2.2 6 r0)), (1, .int x1)] [] μ
set_option maxRecDepth 20000 in
set_option maxHeartbeats 4000000 in
theorem bl_X6_begin_0 {l : Launch} {D : gD} {d : Nat} {q : gMem → Prop} {Γ : gC} {r0 : Nat} {x1 : Int32} {μ : gMem} (hr0 : r0 < 1) (h : (0 < d) ∧ (∀ μ_2 : gMem, μ_2 = gsI μ 6 r0 3 (imin x1 (700 : Int32)) → ∀ μ_3 : gMem, μ_3 = gsI μ_2 6 r0 4 (0 : Int32) → ∃ (d_4 : Nat) (q_5 : gMem → Prop), d_4 < d ∧ Ctr l D d_4 yX6_next cX6_next 1 none [.ref (D.2.2 6 r0)] μ_3 (pV q_5) ∧ ∀ (μ_8 : gMem), q_5 μ_8 → q μ_8)) : pt_X6_begin_0 l D d q Γ r0 x1 μ := by
  unfold pt_X6_begin_0
  refine g_aload_n dX6_begin_0 rfl ?_
  refine g_iload_n dX6_begin_1 rfl ?_
  refine g_sipush (700 : Int32) dX6_begin_2 rfl ?_
  obtain ⟨hd_1, h⟩ := h
  refine g_mmin hd_1 mk_X6_39 (by first | exact Nat.le_of_ble_eq_true rfl | decide) dX6_begin_5 ?_
  refine g_pfI fi_6_44 hr0 rfl rfl dX6_begin_8 ?_
  obtain ⟨μ_2, eμ_2⟩ : ∃ z : gMem, z = gsI μ 6 r0 3 (imin x1 (700 : Int32)) := ⟨_, rfl⟩
  have h := h μ_2 eμ_2
  refine g_mem eμ_2.symm ?_
  refine g_aload_n dX6_begin_11 rfl ?_
  refine g_iconst (0 : Int32) dX6_begin_12 rfl ?_
  refine g_pfI fi_6_46 hr0 rfl rfl dX6_begin_13 ?_
  obtain ⟨μ_3, eμ_3⟩ : ∃ z : gMem, z = gsI μ_2 6 r0 4 (0 : Int32) := ⟨_, rfl⟩
  have h := h μ_3 eμ_3
  refine g_mem eμ_3.symm ?_
  refine g_aload_n dX6_begin_16 rfl ?_
  obtain ⟨d_4, q_5, hd_6, hc_7, h⟩ := h
  refine g_cV ca_X6_49 ob_6 hc_7 hd_6 (by decide) hr0 rfl rfl (by first | exact Nat.le_of_ble_eq_true rfl | decide) dX6_begin_17 (kV (fun μ_8 hq_10 => ?_))
  have h := h μ_8 hq_10
  exact g_vret dX6_begin_20 rfl ⟨rfl, h⟩
theorem en_X6_begin {l : Launch} {D : gD} {d : Nat} {q : gMem → Prop} {r0 : Nat} {x1 : Int32} {μ : gMem} (h : ∀ Γ : gC, pt_X6_begin_0 l D d q Γ r0 x1 μ) : Ctr l D d yX6_begin cX6_begin 2 none [.ref (D.2.2 6 r0), .int x1] μ (pV q) :=
  Ctr_of rfl (by decide) (Nat.le_of_ble_eq_true rfl) (fun Γ => g_sub [0, 1] rfl (h Γ))
def pt_X6_next_0 (l : Launch) (D : gD) (d : Nat) (q : gMem → Prop) (Γ : gC) (r0 : Nat) (μ : gMem) : Prop := G l D RX6 cX6_next 1 none d (pV q) Γ 0 [(0, .ref (D.2.2 6 r0))] [] μ
def pt_X6_next_1 (l : Launch) (D : gD) (d : Nat) (q : gMem → Prop) (Γ : gC) (r0 : Nat) (μ : gMem) : Prop := G l D RX6 cX6_next 1 none d (pV q) Γ 39 [(0, .ref (D.2.2 6 r0))] [] μ
def pt_X6_next_2 (l : Launch) (D : gD) (d : Nat) (q : gMem → Prop) (Γ : gC) (r0 : Nat) (μ : gMem) : Prop := G l D RX6 cX6_next 1 none d (pV q) Γ 52 [(0, .ref (D.2.2 6 r0))] [] μ
set_option maxRecDepth 20000 in
set_option maxHeartbeats 4000000 in
theorem bl_X6_next_0 {l : Launch} {D : gD} {d : Nat} {q : gMem → Prop} {Γ : gC} {r0 : Nat} {μ : gMem} (hr0 : r0 < 1) (h : (((μ.1 6 r0 3) ≤ (μ.1 6 r0 4)) → pt_X6_next_2 l D d q Γ r0 μ) ∧ ((¬ (μ.1 6 r0 3) ≤ (μ.1 6 r0 4)) → ∃ j_2 : Nat, j_2 < 700 ∧ μ.1 6 r0 4 = nI j_2 ∧ ((((μ.1 448 r0 j_2) = (32 : Int32)) → pt_X6_next_1 l D d q Γ r0 μ) ∧ ((¬ (μ.1 448 r0 j_2) = (32 : Int32)) → ∃ j_4 : Nat, j_4 < 700 ∧ μ.1 6 r0 4 = nI j_4 ∧ (((¬ (μ.1 448 r0 j_4) = (10 : Int32)) → pt_X6_next_2 l D d q Γ r0 μ) ∧ (((μ.1 448 r0 j_4) = (10 : Int32)) → pt_X6_next_1 l D d q Γ r0 μ)))))) : pt_X6_next_0 l D d q Γ r0 μ := by
  unfold pt_X6_next_0
  refine g_aload_n dX6_next_0 rfl ?_
  refine g_gfI fi_6_46 hr0 dX6_next_1 ?_
  refine g_aload_n dX6_next_4 rfl ?_
  refine g_gfI fi_6_44 hr0 dX6_next_5 ?_
  refine g_icmp_ge (tgt := 52) dX6_next_8 (by decide) (fun c_1 => ?_) (fun c_1 => ?_)
  · have h := h.1 c_1
    exact g_sub [0] rfl h
  · have h := h.2 c_1
    refine g_aload_n dX6_next_11 rfl ?_
    refine g_gfR fl_6_9 rfl hr0 dX6_next_12 ?_
    refine g_aload_n dX6_next_15 rfl ?_
    refine g_gfI fi_6_46 hr0 dX6_next_16 ?_
    obtain ⟨j_2, hj_2, ej_2, h⟩ := h
    refine g_bald j_2 hr0 rfl hj_2 (by decide) ej_2 dX6_next_19 ?_
    refine g_bipush (32 : Int32) dX6_next_20 rfl ?_
    refine g_icmp_eq (tgt := 39) dX6_next_22 (by decide) (fun c_3 => ?_) (fun c_3 => ?_)
    · have h := h.1 c_3
      exact g_sub [0] rfl h
    · have h := h.2 c_3
      refine g_aload_n dX6_next_25 rfl ?_
      refine g_gfR fl_6_9 rfl hr0 dX6_next_26 ?_
      refine g_aload_n dX6_next_29 rfl ?_
      refine g_gfI fi_6_46 hr0 dX6_next_30 ?_
      obtain ⟨j_4, hj_4, ej_4, h⟩ := h
      refine g_bald j_4 hr0 rfl hj_4 (by decide) ej_4 dX6_next_33 ?_
      refine g_bipush (10 : Int32) dX6_next_34 rfl ?_
      refine g_icmp_ne (tgt := 52) dX6_next_36 (by decide) (fun c_5 => ?_) (fun c_5 => ?_)
      · have h := h.1 c_5
        exact g_sub [0] rfl h
      · have h := h.2 c_5
        exact g_sub [0] rfl h
set_option maxRecDepth 20000 in
set_option maxHeartbeats 4000000 in
theorem bl_X6_next_1 {l : Launch} {D : gD} {d : Nat} {q : gMem → Prop} {Γ : gC} {r0 : Nat} {μ : gMem} (hr0 : r0 < 1) (h : ∀ μ_1 : gMem, μ_1 = gsI μ 6 r0 4 ((μ.1 6 r0 4) + (1 : Int32)) → pt_X6_next_0 l D d q Γ r0 μ_1) : pt_X6_next_1 l D d q Γ r0 μ := by
  unfold pt_X6_next_1
  refine g_aload_n dX6_next_39 rfl ?_
  refine g_dup dX6_next_40 rfl ?_
  refine g_gfI fi_6_46 hr0 dX6_next_41 ?_
  refine g_iconst (1 : Int32) dX6_next_44 rfl ?_
  refine g_iadd dX6_next_45 ?_
  refine g_pfI fi_6_46 hr0 rfl rfl dX6_next_46 ?_
  obtain ⟨μ_1, eμ_1⟩ : ∃ z : gMem, z = gsI μ 6 r0 4 ((μ.1 6 r0 4) + (1 : Int32)) := ⟨_, rfl⟩
  have h := h μ_1 eμ_1
  refine g_mem eμ_1.symm ?_
  refine g_goto (tgt := 0) dX6_next_49 (by decide) ?_
  exact g_sub [0] rfl h
set_option maxRecDepth 20000 in
set_option maxHeartbeats 4000000 in
theorem bl_X6_next_2 {l : Launch} {D : gD} {d : Nat} {q : gMem → Prop} {Γ : gC} {r0 : Nat} {μ : gMem} (hr0 : r0 < 1) (h : ∀ μ_1 : gMem, μ_1 = gsI μ 6 r0 6 (μ.1 6 r0 4) → ∀ μ_2 : gMem, μ_2 = gsI μ_1 6 r0 7 (0 : Int32) → (((μ_2.1 6 r0 4) < (μ_2.1 6 r0 3)) → ∃ j_4 : Nat, j_4 < 700 ∧ μ_2.1 6 r0 4 = nI j_4 ∧ ((0 < d) ∧ ((((iw (μ_2.1 448 r0 j_4) (97 : Int32) (122 : Int32)) = 0) → ∃ j_10 : Nat, j_10 < 700 ∧ μ_2.1 6 r0 4 = nI j_10 ∧ ((0 < d) ∧ ((((iw (μ_2.1 448 r0 j_10) (48 : Int32) (57 : Int32)) = 0) → ∃ (d_16 : Nat) (q_17 : gMem → Prop), d_16 < d ∧ Ctr l D d_16 yX6_readSign cX6_readSign 2 none [.ref (D.2.2 6 r0)] μ_2 (pV q_17) ∧ ∀ (μ_20 : gMem), q_17 μ_20 → q μ_20) ∧ ((¬ (iw (μ_2.1 448 r0 j_10) (48 : Int32) (57 : Int32)) = 0) → ∃ (d_23 : Nat) (q_24 : gMem → Prop), d_23 < d ∧ Ctr l D d_23 yX6_readNumber cX6_readNumber 1 none [.ref (D.2.2 6 r0)] μ_2 (pV q_24) ∧ ∀ (μ_27 : gMem), q_24 μ_27 → q μ_27)))) ∧ ((¬ (iw (μ_2.1 448 r0 j_4) (97 : Int32) (122 : Int32)) = 0) → ∃ (d_30 : Nat) (q_31 : gMem → Prop), d_30 < d ∧ Ctr l D d_30 yX6_readWord cX6_readWord 3 none [.ref (D.2.2 6 r0)] μ_2 (pV q_31) ∧ ∀ (μ_34 : gMem), q_31 μ_34 → q μ_34)))) ∧ ((¬ (μ_2.1 6 r0 4) < (μ_2.1 6 r0 3)) → ∀ μ_37 : gMem, μ_37 = gsI μ_2 6 r0 5 (36 : Int32) → q μ_37)) : pt_X6_next_2 l D d q Γ r0 μ := by
  unfold pt_X6_next_2
  refine g_aload_n dX6_next_52 rfl ?_
  refine g_aload_n dX6_next_53 rfl ?_
  refine g_gfI fi_6_46 hr0 dX6_next_54 ?_
  refine g_pfI fi_6_52 hr0 rfl rfl dX6_next_57 ?_
  obtain ⟨μ_1, eμ_1⟩ : ∃ z : gMem, z = gsI μ 6 r0 6 (μ.1 6 r0 4) := ⟨_, rfl⟩
  have h := h μ_1 eμ_1
  refine g_mem eμ_1.symm ?_
  refine g_aload_n dX6_next_60 rfl ?_
  refine g_iconst (0 : Int32) dX6_next_61 rfl ?_
  refine g_pfI fi_6_55 hr0 rfl rfl dX6_next_62 ?_
  obtain ⟨μ_2, eμ_2⟩ : ∃ z : gMem, z = gsI μ_1 6 r0 7 (0 : Int32) := ⟨_, rfl⟩
  have h := h μ_2 eμ_2
  refine g_mem eμ_2.symm ?_
  refine g_aload_n dX6_next_65 rfl ?_
  refine g_gfI fi_6_46 hr0 dX6_next_66 ?_
  refine g_aload_n dX6_next_69 rfl ?_
  refine g_gfI fi_6_44 hr0 dX6_next_70 ?_
  refine g_icmp_lt (tgt := 85) dX6_next_73 (by decide) (fun c_3 => ?_) (fun c_3 => ?_)
  · have h := h.1 c_3
    refine g_aload_n dX6_next_85 rfl ?_
    refine g_gfR fl_6_9 rfl hr0 dX6_next_86 ?_
    refine g_aload_n dX6_next_89 rfl ?_
    refine g_gfI fi_6_46 hr0 dX6_next_90 ?_
    obtain ⟨j_4, hj_4, ej_4, h⟩ := h
    refine g_bald j_4 hr0 rfl hj_4 (by decide) ej_4 dX6_next_93 ?_
    obtain ⟨hd_5, h⟩ := h
    refine g_callS ca_X6_61 (c_X6_isLetter (d := 0) (Nat.le_refl _) ) hd_5 (by decide) rfl rfl (by first | exact Nat.le_of_ble_eq_true rfl | decide) dX6_next_94 (kI (fun v_6 μ_7 hq_8 => ?_))
    obtain ⟨ev_6, eμ_7⟩ := hq_8
    subst ev_6
    refine g_mem eμ_7 ?_
    refine g_if_eq (tgt := 107) dX6_next_97 (by decide) (fun c_9 => ?_) (fun c_9 => ?_)
    · have h := h.1 c_9
      refine g_aload_n dX6_next_107 rfl ?_
      refine g_gfR fl_6_9 rfl hr0 dX6_next_108 ?_
      refine g_aload_n dX6_next_111 rfl ?_
      refine g_gfI fi_6_46 hr0 dX6_next_112 ?_
      obtain ⟨j_10, hj_10, ej_10, h⟩ := h
      refine g_bald j_10 hr0 rfl hj_10 (by decide) ej_10 dX6_next_115 ?_
      obtain ⟨hd_11, h⟩ := h
      refine g_callS ca_X6_68 (c_X6_isDigit (d := 0) (Nat.le_refl _) ) hd_11 (by decide) rfl rfl (by first | exact Nat.le_of_ble_eq_true rfl | decide) dX6_next_116 (kI (fun v_12 μ_13 hq_14 => ?_))
      obtain ⟨ev_12, eμ_13⟩ := hq_14
      subst ev_12
      refine g_mem eμ_13 ?_
      refine g_if_eq (tgt := 129) dX6_next_119 (by decide) (fun c_15 => ?_) (fun c_15 => ?_)
      · have h := h.1 c_15
        refine g_aload_n dX6_next_129 rfl ?_
        obtain ⟨d_16, q_17, hd_18, hc_19, h⟩ := h
        refine g_cV ca_X6_74 ob_6 hc_19 hd_18 (by decide) hr0 rfl rfl (by first | exact Nat.le_of_ble_eq_true rfl | decide) dX6_next_130 (kV (fun μ_20 hq_22 => ?_))
        have h := h μ_20 hq_22
        exact g_vret dX6_next_133 rfl ⟨rfl, h⟩
      · have h := h.2 c_15
        refine g_aload_n dX6_next_122 rfl ?_
        obtain ⟨d_23, q_24, hd_25, hc_26, h⟩ := h
        refine g_cV ca_X6_71 ob_6 hc_26 hd_25 (by decide) hr0 rfl rfl (by first | exact Nat.le_of_ble_eq_true rfl | decide) dX6_next_123 (kV (fun μ_27 hq_29 => ?_))
        have h := h μ_27 hq_29
        refine g_goto (tgt := 133) dX6_next_126 (by decide) ?_
        exact g_vret dX6_next_133 rfl ⟨rfl, h⟩
    · have h := h.2 c_9
      refine g_aload_n dX6_next_100 rfl ?_
      obtain ⟨d_30, q_31, hd_32, hc_33, h⟩ := h
      refine g_cV ca_X6_65 ob_6 hc_33 hd_32 (by decide) hr0 rfl rfl (by first | exact Nat.le_of_ble_eq_true rfl | decide) dX6_next_101 (kV (fun μ_34 hq_36 => ?_))
      have h := h μ_34 hq_36
      refine g_goto (tgt := 133) dX6_next_104 (by decide) ?_
      exact g_vret dX6_next_133 rfl ⟨rfl, h⟩
  · have h := h.2 c_3
    refine g_aload_n dX6_next_76 rfl ?_
    refine g_bipush (36 : Int32) dX6_next_77 rfl ?_
    refine g_pfI fi_6_58 hr0 rfl rfl dX6_next_79 ?_
    obtain ⟨μ_37, eμ_37⟩ : ∃ z : gMem, z = gsI μ_2 6 r0 5 (36 : Int32) := ⟨_, rfl⟩
    have h := h μ_37 eμ_37
    refine g_mem eμ_37.symm ?_
    refine g_goto (tgt := 133) dX6_next_82 (by decide) ?_
    exact g_vret dX6_next_133 rfl ⟨rfl, h⟩
theorem en_X6_next {l : Launch} {D : gD} {d : Nat} {q : gMem → Prop} {r0 : Nat} {μ : gMem} (h : ∀ Γ : gC, pt_X6_next_0 l D d q Γ r0 μ) : Ctr l D d yX6_next cX6_next 1 none [.ref (D.2.2 6 r0)] μ (pV q) :=
  Ctr_of rfl (by decide) (Nat.le_of_ble_eq_true rfl) (fun Γ => g_sub [0] rfl (h Γ))
def pt_X6_letterBits_0 (l : Launch) (D : gD) (d : Nat) (q : Int32 → gMem → Prop) (Γ : gC) (x0 : Int32) (x1 : Int32) (μ : gMem) : Prop := G l D RX6 cX6_letterBits 2 (some .int) d (pI q) Γ 0 [(0, .int x0), (1, .int x1)] [] μ
set_option maxRecDepth 20000 in
set_option maxHeartbeats 4000000 in
theorem bl_X6_letterBits_0 {l : Launch} {D : gD} {d : Nat} {q : Int32 → gMem → Prop} {Γ : gC} {x0 : Int32} {x1 : Int32} {μ : gMem}  (h : (((6 : Int32) ≤ x1) → q (0 : Int32) μ) ∧ ((¬ (6 : Int32) ≤ x1) → q (((x0 - (97 : Int32)) + (1 : Int32)) <<< (((25 : Int32) - ((5 : Int32) * x1)) &&& 31)) μ)) : pt_X6_letterBits_0 l D d q Γ x0 x1 μ := by
  unfold pt_X6_letterBits_0
  refine g_iload_n dX6_letterBits_0 rfl ?_
  refine g_bipush (6 : Int32) dX6_letterBits_1 rfl ?_
  refine g_icmp_ge (tgt := 22) dX6_letterBits_3 (by decide) (fun c_1 => ?_) (fun c_1 => ?_)
  · have h := h.1 c_1
    refine g_iconst (0 : Int32) dX6_letterBits_22 rfl ?_
    exact g_iret dX6_letterBits_23 rfl rfl ⟨_, rfl, h⟩
  · have h := h.2 c_1
    refine g_iload_n dX6_letterBits_6 rfl ?_
    refine g_bipush (97 : Int32) dX6_letterBits_7 rfl ?_
    refine g_isub dX6_letterBits_9 ?_
    refine g_iconst (1 : Int32) dX6_letterBits_10 rfl ?_
    refine g_iadd dX6_letterBits_11 ?_
    refine g_bipush (25 : Int32) dX6_letterBits_12 rfl ?_
    refine g_iconst (5 : Int32) dX6_letterBits_14 rfl ?_
    refine g_iload_n dX6_letterBits_15 rfl ?_
    refine g_imul dX6_letterBits_16 ?_
    refine g_isub dX6_letterBits_17 ?_
    refine g_ishl dX6_letterBits_18 ?_
    refine g_goto (tgt := 23) dX6_letterBits_19 (by decide) ?_
    exact g_iret dX6_letterBits_23 rfl rfl ⟨_, rfl, h⟩
theorem en_X6_letterBits {l : Launch} {D : gD} {d : Nat} {q : Int32 → gMem → Prop} {x0 : Int32} {x1 : Int32} {μ : gMem} (h : ∀ Γ : gC, pt_X6_letterBits_0 l D d q Γ x0 x1 μ) : Ctr l D d yX6_letterBits cX6_letterBits 2 (some .int) [.int x0, .int x1] μ (pI q) :=
  Ctr_of rfl (by decide) (Nat.le_of_ble_eq_true rfl) (fun Γ => g_sub [0, 1] rfl (h Γ))
def pt_X6_readWord_0 (l : Launch) (D : gD) (d : Nat) (q : gMem → Prop) (Γ : gC) (r0 : Nat) (μ : gMem) : Prop := G l D RX6 cX6_readWord 3 none d (pV q) Γ 0 [(0, .ref (D.2.2 6 r0))] [] μ
def pt_X6_readWord_1 (l : Launch) (D : gD) (d : Nat) (q : gMem → Prop) (Γ : gC) (r0 : Nat) (x1 : Int32) (μ : gMem) : Prop := G l D RX6 cX6_readWord 3 none d (pV q) Γ 2 [(0, .ref (D.2.2 6 r0)), (1, .int x1)] [] μ
def pt_X6_readWord_2 (l : Launch) (D : gD) (d : Nat) (q : gMem → Prop) (Γ : gC) (r0 : Nat) (x1 : Int32) (μ : gMem) : Prop := G l D RX6 cX6_readWord 3 none d (pV q) Γ 66 [(0, .ref (D.2.2 6 r0)), (1, .int x1)] [] μ
set_option maxRecDepth 20000 in
set_option maxHeartbeats 4000000 in
theorem bl_X6_readWord_0 {l : Launch} {D : gD} {d : Nat} {q : gMem → Prop} {Γ : gC} {r0 : Nat} {μ : gMem} (hr0 : r0 < 1) (h : ∀ x1_1 : Int32, x1_1 = (0 : Int32) → pt_X6_readWord_1 l D d q Γ r0 x1_1 μ) : pt_X6_readWord_0 l D d q Γ r0 μ := by
  unfold pt_X6_readWord_0
  refine g_iconst (0 : Int32) dX6_readWord_0 rfl ?_
  refine g_istore_n dX6_readWord_1 (by decide) (fun x1_1 ex1_1 => g_sub (lv' := [(0, .ref (D.2.2 6 r0)), (1, .int x1_1)]) [1, 0] rfl ?_)
  have h := h x1_1 ex1_1
  exact g_sub [0, 1] rfl h
set_option maxRecDepth 20000 in
set_option maxHeartbeats 4000000 in
theorem bl_X6_readWord_1 {l : Launch} {D : gD} {d : Nat} {q : gMem → Prop} {Γ : gC} {r0 : Nat} {x1 : Int32} {μ : gMem} (hr0 : r0 < 1) (h : (((μ.1 6 r0 3) ≤ (μ.1 6 r0 4)) → pt_X6_readWord_2 l D d q Γ r0 x1 μ) ∧ ((¬ (μ.1 6 r0 3) ≤ (μ.1 6 r0 4)) → ∃ j_2 : Nat, j_2 < 700 ∧ μ.1 6 r0 4 = nI j_2 ∧ ((0 < d) ∧ ((((iw (μ.1 448 r0 j_2) (97 : Int32) (122 : Int32)) = 0) → pt_X6_readWord_2 l D d q Γ r0 x1 μ) ∧ ((¬ (iw (μ.1 448 r0 j_2) (97 : Int32) (122 : Int32)) = 0) → ∃ j_8 : Nat, j_8 < 700 ∧ μ.1 6 r0 4 = nI j_8 ∧ (∃ (d_9 : Nat) (q_10 : Int32 → gMem → Prop), d_9 < d ∧ Ctr l D d_9 yX6_letterBits cX6_letterBits 2 (some .int) [.int (μ.1 448 r0 j_8), .int x1] μ (pI q_10) ∧ ∀ (v_14 : Int32) (μ_13 : gMem), q_10 v_14 μ_13 → ∀ μ_16 : gMem, μ_16 = gsI μ_13 6 r0 7 ((μ.1 6 r0 7) ||| v_14) → ∀ x1_17 : Int32, x1_17 = x1 + (1 : Int32) → ∀ μ_18 : gMem, μ_18 = gsI μ_16 6 r0 4 ((μ_16.1 6 r0 4) + (1 : Int32)) → pt_X6_readWord_1 l D d q Γ r0 x1_17 μ_18)))))) : pt_X6_readWord_1 l D d q Γ r0 x1 μ := by
  unfold pt_X6_readWord_1
  refine g_aload_n dX6_readWord_2 rfl ?_
  refine g_gfI fi_6_46 hr0 dX6_readWord_3 ?_
  refine g_aload_n dX6_readWord_6 rfl ?_
  refine g_gfI fi_6_44 hr0 dX6_readWord_7 ?_
  refine g_icmp_ge (tgt := 66) dX6_readWord_10 (by decide) (fun c_1 => ?_) (fun c_1 => ?_)
  · have h := h.1 c_1
    exact g_sub [0, 1] rfl h
  · have h := h.2 c_1
    refine g_aload_n dX6_readWord_13 rfl ?_
    refine g_gfR fl_6_9 rfl hr0 dX6_readWord_14 ?_
    refine g_aload_n dX6_readWord_17 rfl ?_
    refine g_gfI fi_6_46 hr0 dX6_readWord_18 ?_
    obtain ⟨j_2, hj_2, ej_2, h⟩ := h
    refine g_bald j_2 hr0 rfl hj_2 (by decide) ej_2 dX6_readWord_21 ?_
    obtain ⟨hd_3, h⟩ := h
    refine g_callS ca_X6_61 (c_X6_isLetter (d := 0) (Nat.le_refl _) ) hd_3 (by decide) rfl rfl (by first | exact Nat.le_of_ble_eq_true rfl | decide) dX6_readWord_22 (kI (fun v_4 μ_5 hq_6 => ?_))
    obtain ⟨ev_4, eμ_5⟩ := hq_6
    subst ev_4
    refine g_mem eμ_5 ?_
    refine g_if_eq (tgt := 66) dX6_readWord_25 (by decide) (fun c_7 => ?_) (fun c_7 => ?_)
    · have h := h.1 c_7
      exact g_sub [0, 1] rfl h
    · have h := h.2 c_7
      refine g_aload_n dX6_readWord_28 rfl ?_
      refine g_dup dX6_readWord_29 rfl ?_
      refine g_gfI fi_6_55 hr0 dX6_readWord_30 ?_
      refine g_aload_n dX6_readWord_33 rfl ?_
      refine g_gfR fl_6_9 rfl hr0 dX6_readWord_34 ?_
      refine g_aload_n dX6_readWord_37 rfl ?_
      refine g_gfI fi_6_46 hr0 dX6_readWord_38 ?_
      obtain ⟨j_8, hj_8, ej_8, h⟩ := h
      refine g_bald j_8 hr0 rfl hj_8 (by decide) ej_8 dX6_readWord_41 ?_
      refine g_iload_n dX6_readWord_42 rfl ?_
      obtain ⟨d_9, q_10, hd_11, hc_12, h⟩ := h
      refine g_callS ca_X6_31 hc_12 hd_11 (by decide) rfl rfl (by first | exact Nat.le_of_ble_eq_true rfl | decide) dX6_readWord_43 (kI (fun v_14 μ_13 hq_15 => ?_))
      have h := h v_14 μ_13 hq_15
      refine g_ior dX6_readWord_46 ?_
      refine g_pfI fi_6_55 hr0 rfl rfl dX6_readWord_47 ?_
      obtain ⟨μ_16, eμ_16⟩ : ∃ z : gMem, z = gsI μ_13 6 r0 7 ((μ.1 6 r0 7) ||| v_14) := ⟨_, rfl⟩
      have h := h μ_16 eμ_16
      refine g_mem eμ_16.symm ?_
      refine g_iinc dX6_readWord_50 rfl (by decide) (fun x1_17 ex1_17 => g_sub (lv' := [(0, .ref (D.2.2 6 r0)), (1, .int x1_17)]) [1, 0] rfl ?_)
      have h := h x1_17 ex1_17
      refine g_aload_n dX6_readWord_53 rfl ?_
      refine g_dup dX6_readWord_54 rfl ?_
      refine g_gfI fi_6_46 hr0 dX6_readWord_55 ?_
      refine g_iconst (1 : Int32) dX6_readWord_58 rfl ?_
      refine g_iadd dX6_readWord_59 ?_
      refine g_pfI fi_6_46 hr0 rfl rfl dX6_readWord_60 ?_
      obtain ⟨μ_18, eμ_18⟩ : ∃ z : gMem, z = gsI μ_16 6 r0 4 ((μ_16.1 6 r0 4) + (1 : Int32)) := ⟨_, rfl⟩
      have h := h μ_18 eμ_18
      refine g_mem eμ_18.symm ?_
      refine g_goto (tgt := 2) dX6_readWord_63 (by decide) ?_
      exact g_sub [0, 1] rfl h
set_option maxRecDepth 20000 in
set_option maxHeartbeats 4000000 in
theorem bl_X6_readWord_2 {l : Launch} {D : gD} {d : Nat} {q : gMem → Prop} {Γ : gC} {r0 : Nat} {x1 : Int32} {μ : gMem} (hr0 : r0 < 1) (h : ∀ μ_1 : gMem, μ_1 = gsI μ 6 r0 5 (35 : Int32) → ((x1 ≤ (6 : Int32)) → ∃ (d_3 : Nat) (q_4 : Int32 → gMem → Prop), d_3 < d ∧ Ctr l D d_3 yX9_placeOf cX9_placeOf 4 (some .int) [.int (μ_1.1 6 r0 7), .ref (D.2.2 449 r0), .int (21 : Int32)] μ_1 (pI q_4) ∧ ∀ (v_8 : Int32) (μ_7 : gMem), q_4 v_8 μ_7 → ∀ x2_10 : Int32, x2_10 = v_8 → ((x2_10 = (-1 : Int32)) → q μ_7) ∧ ((¬ x2_10 = (-1 : Int32)) → ∀ μ_12 : gMem, μ_12 = gsI μ_7 6 r0 5 x2_10 → q μ_12)) ∧ ((¬ x1 ≤ (6 : Int32)) → ∀ μ_13 : gMem, μ_13 = gsI μ_1 6 r0 5 (37 : Int32) → q μ_13)) : pt_X6_readWord_2 l D d q Γ r0 x1 μ := by
  unfold pt_X6_readWord_2
  refine g_aload_n dX6_readWord_66 rfl ?_
  refine g_bipush (35 : Int32) dX6_readWord_67 rfl ?_
  refine g_pfI fi_6_58 hr0 rfl rfl dX6_readWord_69 ?_
  obtain ⟨μ_1, eμ_1⟩ : ∃ z : gMem, z = gsI μ 6 r0 5 (35 : Int32) := ⟨_, rfl⟩
  have h := h μ_1 eμ_1
  refine g_mem eμ_1.symm ?_
  refine g_iload_n dX6_readWord_72 rfl ?_
  refine g_bipush (6 : Int32) dX6_readWord_73 rfl ?_
  refine g_icmp_le (tgt := 85) dX6_readWord_75 (by decide) (fun c_2 => ?_) (fun c_2 => ?_)
  · have h := h.1 c_2
    refine g_aload_n dX6_readWord_85 rfl ?_
    refine g_gfI fi_6_55 hr0 dX6_readWord_86 ?_
    refine g_aload_n dX6_readWord_89 rfl ?_
    refine g_gfR fl_6_15 rfl hr0 dX6_readWord_90 ?_
    refine g_bipush (21 : Int32) dX6_readWord_93 rfl ?_
    obtain ⟨d_3, q_4, hd_5, hc_6, h⟩ := h
    refine g_callN ca_X6_77 hc_6 hd_5 (by decide) rfl rfl (by first | exact Nat.le_of_ble_eq_true rfl | decide) dX6_readWord_95 (kI (fun v_8 μ_7 hq_9 => ?_))
    have h := h v_8 μ_7 hq_9
    refine g_istore_n dX6_readWord_98 (by decide) (fun x2_10 ex2_10 => g_sub (lv' := [(0, .ref (D.2.2 6 r0)), (2, .int x2_10)]) [1, 0] rfl ?_)
    have h := h x2_10 ex2_10
    refine g_iload_n dX6_readWord_99 rfl ?_
    refine g_iconst (-1 : Int32) dX6_readWord_100 rfl ?_
    refine g_icmp_eq (tgt := 109) dX6_readWord_101 (by decide) (fun c_11 => ?_) (fun c_11 => ?_)
    · have h := h.1 c_11
      exact g_vret dX6_readWord_109 rfl ⟨rfl, h⟩
    · have h := h.2 c_11
      refine g_aload_n dX6_readWord_104 rfl ?_
      refine g_iload_n dX6_readWord_105 rfl ?_
      refine g_pfI fi_6_58 hr0 rfl rfl dX6_readWord_106 ?_
      obtain ⟨μ_12, eμ_12⟩ : ∃ z : gMem, z = gsI μ_7 6 r0 5 x2_10 := ⟨_, rfl⟩
      have h := h μ_12 eμ_12
      refine g_mem eμ_12.symm ?_
      exact g_vret dX6_readWord_109 rfl ⟨rfl, h⟩
  · have h := h.2 c_2
    refine g_aload_n dX6_readWord_78 rfl ?_
    refine g_bipush (37 : Int32) dX6_readWord_79 rfl ?_
    refine g_pfI fi_6_58 hr0 rfl rfl dX6_readWord_81 ?_
    obtain ⟨μ_13, eμ_13⟩ : ∃ z : gMem, z = gsI μ_1 6 r0 5 (37 : Int32) := ⟨_, rfl⟩
    have h := h μ_13 eμ_13
    refine g_mem eμ_13.symm ?_
    exact g_vret dX6_readWord_84 rfl ⟨rfl, h⟩
theorem en_X6_readWord {l : Launch} {D : gD} {d : Nat} {q : gMem → Prop} {r0 : Nat} {μ : gMem} (h : ∀ Γ : gC, pt_X6_readWord_0 l D d q Γ r0 μ) : Ctr l D d yX6_readWord cX6_readWord 3 none [.ref (D.2.2 6 r0)] μ (pV q) :=
  Ctr_of rfl (by decide) (Nat.le_of_ble_eq_true rfl) (fun Γ => g_sub [0] rfl (h Γ))
def pt_X6_readNumber_0 (l : Launch) (D : gD) (d : Nat) (q : gMem → Prop) (Γ : gC) (r0 : Nat) (μ : gMem) : Prop := G l D RX6 cX6_readNumber 1 none d (pV q) Γ 0 [(0, .ref (D.2.2 6 r0))] [] μ
def pt_X6_readNumber_1 (l : Launch) (D : gD) (d : Nat) (q : gMem → Prop) (Γ : gC) (r0 : Nat) (μ : gMem) : Prop := G l D RX6 cX6_readNumber 1 none d (pV q) Γ 68 [(0, .ref (D.2.2 6 r0))] [] μ
set_option maxRecDepth 20000 in
set_option maxHeartbeats 4000000 in
theorem bl_X6_readNumber_0 {l : Launch} {D : gD} {d : Nat} {q : gMem → Prop} {Γ : gC} {r0 : Nat} {μ : gMem} (hr0 : r0 < 1) (h : (((μ.1 6 r0 3) ≤ (μ.1 6 r0 4)) → pt_X6_readNumber_1 l D d q Γ r0 μ) ∧ ((¬ (μ.1 6 r0 3) ≤ (μ.1 6 r0 4)) → ∃ j_2 : Nat, j_2 < 700 ∧ μ.1 6 r0 4 = nI j_2 ∧ ((0 < d) ∧ ((((iw (μ.1 448 r0 j_2) (48 : Int32) (57 : Int32)) = 0) → pt_X6_readNumber_1 l D d q Γ r0 μ) ∧ ((¬ (iw (μ.1 448 r0 j_2) (48 : Int32) (57 : Int32)) = 0) → ∃ j_8 : Nat, j_8 < 700 ∧ μ.1 6 r0 4 = nI j_8 ∧ ((0 < d) ∧ (∀ μ_10 : gMem, μ_10 = gsI μ 6 r0 7 (imin (1000000 : Int32) ((((μ.1 6 r0 7) * (10 : Int32)) + (μ.1 448 r0 j_8)) - (48 : Int32))) → ∀ μ_11 : gMem, μ_11 = gsI μ_10 6 r0 4 ((μ_10.1 6 r0 4) + (1 : Int32)) → pt_X6_readNumber_0 l D d q Γ r0 μ_11))))))) : pt_X6_readNumber_0 l D d q Γ r0 μ := by
  unfold pt_X6_readNumber_0
  refine g_aload_n dX6_readNumber_0 rfl ?_
  refine g_gfI fi_6_46 hr0 dX6_readNumber_1 ?_
  refine g_aload_n dX6_readNumber_4 rfl ?_
  refine g_gfI fi_6_44 hr0 dX6_readNumber_5 ?_
  refine g_icmp_ge (tgt := 68) dX6_readNumber_8 (by decide) (fun c_1 => ?_) (fun c_1 => ?_)
  · have h := h.1 c_1
    exact g_sub [0] rfl h
  · have h := h.2 c_1
    refine g_aload_n dX6_readNumber_11 rfl ?_
    refine g_gfR fl_6_9 rfl hr0 dX6_readNumber_12 ?_
    refine g_aload_n dX6_readNumber_15 rfl ?_
    refine g_gfI fi_6_46 hr0 dX6_readNumber_16 ?_
    obtain ⟨j_2, hj_2, ej_2, h⟩ := h
    refine g_bald j_2 hr0 rfl hj_2 (by decide) ej_2 dX6_readNumber_19 ?_
    obtain ⟨hd_3, h⟩ := h
    refine g_callS ca_X6_68 (c_X6_isDigit (d := 0) (Nat.le_refl _) ) hd_3 (by decide) rfl rfl (by first | exact Nat.le_of_ble_eq_true rfl | decide) dX6_readNumber_20 (kI (fun v_4 μ_5 hq_6 => ?_))
    obtain ⟨ev_4, eμ_5⟩ := hq_6
    subst ev_4
    refine g_mem eμ_5 ?_
    refine g_if_eq (tgt := 68) dX6_readNumber_23 (by decide) (fun c_7 => ?_) (fun c_7 => ?_)
    · have h := h.1 c_7
      exact g_sub [0] rfl h
    · have h := h.2 c_7
      refine g_aload_n dX6_readNumber_26 rfl ?_
      refine g_ldc kc_X6_81 dX6_readNumber_27 ?_
      refine g_aload_n dX6_readNumber_29 rfl ?_
      refine g_gfI fi_6_55 hr0 dX6_readNumber_30 ?_
      refine g_bipush (10 : Int32) dX6_readNumber_33 rfl ?_
      refine g_imul dX6_readNumber_35 ?_
      refine g_aload_n dX6_readNumber_36 rfl ?_
      refine g_gfR fl_6_9 rfl hr0 dX6_readNumber_37 ?_
      refine g_aload_n dX6_readNumber_40 rfl ?_
      refine g_gfI fi_6_46 hr0 dX6_readNumber_41 ?_
      obtain ⟨j_8, hj_8, ej_8, h⟩ := h
      refine g_bald j_8 hr0 rfl hj_8 (by decide) ej_8 dX6_readNumber_44 ?_
      refine g_iadd dX6_readNumber_45 ?_
      refine g_bipush (48 : Int32) dX6_readNumber_46 rfl ?_
      refine g_isub dX6_readNumber_48 ?_
      obtain ⟨hd_9, h⟩ := h
      refine g_mmin hd_9 mk_X6_39 (by first | exact Nat.le_of_ble_eq_true rfl | decide) dX6_readNumber_49 ?_
      refine g_pfI fi_6_55 hr0 rfl rfl dX6_readNumber_52 ?_
      obtain ⟨μ_10, eμ_10⟩ : ∃ z : gMem, z = gsI μ 6 r0 7 (imin (1000000 : Int32) ((((μ.1 6 r0 7) * (10 : Int32)) + (μ.1 448 r0 j_8)) - (48 : Int32))) := ⟨_, rfl⟩
      have h := h μ_10 eμ_10
      refine g_mem eμ_10.symm ?_
      refine g_aload_n dX6_readNumber_55 rfl ?_
      refine g_dup dX6_readNumber_56 rfl ?_
      refine g_gfI fi_6_46 hr0 dX6_readNumber_57 ?_
      refine g_iconst (1 : Int32) dX6_readNumber_60 rfl ?_
      refine g_iadd dX6_readNumber_61 ?_
      refine g_pfI fi_6_46 hr0 rfl rfl dX6_readNumber_62 ?_
      obtain ⟨μ_11, eμ_11⟩ : ∃ z : gMem, z = gsI μ_10 6 r0 4 ((μ_10.1 6 r0 4) + (1 : Int32)) := ⟨_, rfl⟩
      have h := h μ_11 eμ_11
      refine g_mem eμ_11.symm ?_
      refine g_goto (tgt := 0) dX6_readNumber_65 (by decide) ?_
      exact g_sub [0] rfl h
set_option maxRecDepth 20000 in
set_option maxHeartbeats 4000000 in
theorem bl_X6_readNumber_1 {l : Launch} {D : gD} {d : Nat} {q : gMem → Prop} {Γ : gC} {r0 : Nat} {μ : gMem} (hr0 : r0 < 1) (h : ∀ μ_1 : gMem, μ_1 = gsI μ 6 r0 5 (34 : Int32) → q μ_1) : pt_X6_readNumber_1 l D d q Γ r0 μ := by
  unfold pt_X6_readNumber_1
  refine g_aload_n dX6_readNumber_68 rfl ?_
  refine g_bipush (34 : Int32) dX6_readNumber_69 rfl ?_
  refine g_pfI fi_6_58 hr0 rfl rfl dX6_readNumber_71 ?_
  obtain ⟨μ_1, eμ_1⟩ : ∃ z : gMem, z = gsI μ 6 r0 5 (34 : Int32) := ⟨_, rfl⟩
  have h := h μ_1 eμ_1
  refine g_mem eμ_1.symm ?_
  exact g_vret dX6_readNumber_74 rfl ⟨rfl, h⟩
theorem en_X6_readNumber {l : Launch} {D : gD} {d : Nat} {q : gMem → Prop} {r0 : Nat} {μ : gMem} (h : ∀ Γ : gC, pt_X6_readNumber_0 l D d q Γ r0 μ) : Ctr l D d yX6_readNumber cX6_readNumber 1 none [.ref (D.2.2 6 r0)] μ (pV q) :=
  Ctr_of rfl (by decide) (Nat.le_of_ble_eq_true rfl) (fun Γ => g_sub [0] rfl (h Γ))
