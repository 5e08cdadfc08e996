def pt_X10_rank_0 (l : Launch) (D : gD) (d : Nat) (q : Int32 → gMem → Prop) (Γ : gC) (r0 : Nat) (x1 : Int32) (μ : gMem) : Prop := G l D RX10 cX10_rank 4 (some .int) d (pI q) Γ 0 [(0, .ref (D.2.2 10 r0)), (1, .int x1)] [] μ
def pt_X10_rank_1 (l : Launch) (D : gD) (d : Nat) (q : Int32 → gMem → Prop) (Γ : gC) (r0 : Nat) (x1 : Int32) (x2 : Int32) (x3 : Int32) (μ : gMem) : Prop := G l D RX10 cX10_rank 4 (some .int) d (pI q) Γ 19 [(0, .ref (D.2.2 10 r0)), (1, .int x1), (2, .int x2), (3, .int x3)] [] μ
def pt_X10_rank_2 (l : Launch) (D : gD) (d : Nat) (q : Int32 → gMem → Prop) (Γ : gC) (r0 : Nat) (x1 : Int32) (x3 : Int32) (xs0 : Int32) (μ : gMem) : Prop := G l D RX10 cX10_rank 4 (some .int) d (pI q) Γ 65 [(0, .ref (D.2.2 10 r0)), (1, .int x1), (3, .int x3)] [.int xs0] μ
def pt_X10_rank_3 (l : Launch) (D : gD) (d : Nat) (q : Int32 → gMem → Prop) (Γ : gC) (r0 : Nat) (x1 : Int32) (x3 : Int32) (xs0 : Int32) (μ : gMem) : Prop := G l D RX10 cX10_rank 4 (some .int) d (pI q) Γ 69 [(0, .ref (D.2.2 10 r0)), (1, .int x1), (3, .int x3)] [.int xs0] μ
def pt_X10_rank_4 (l : Launch) (D : gD) (d : Nat) (q : Int32 → gMem → Prop) (Γ : gC) (r0 : Nat) (x1 : Int32) (x3 : Int32) (xs0 : Int32) (xs1 : Int32) (μ : gMem) : Prop := G l D RX10 cX10_rank 4 (some .int) d (pI q) Γ 70 [(0, .ref (D.2.2 10 r0)), (1, .int x1), (3, .int x3)] [.int xs1, .int xs0] μ
set_option maxRecDepth 20000 in
set_option maxHeartbeats 4000000 in
theorem bl_X10_rank_0 {l : Launch} {D : gD} {d : Nat} {q : Int32 → gMem → Prop} {Γ : gC} {r0 : Nat} {x1 : Int32} {μ : gMem} (hr0 : r0 < 1) (h : ∀ μ_1 : gMem, μ_1 = gsI μ 10 r0 0 (0 : Int32) → (0 < d) ∧ (((¬ (isn x1 (μ_1.1 707 r0 0)) = 0) → ∀ x2_7 : Int32, x2_7 = (0 : Int32) → ∀ x3_8 : Int32, x3_8 = (0 : Int32) → pt_X10_rank_1 l D d q Γ r0 x1 x2_7 x3_8 μ_1) ∧ (((isn x1 (μ_1.1 707 r0 0)) = 0) → q (-1 : Int32) μ_1))) : pt_X10_rank_0 l D d q Γ r0 x1 μ := by
  unfold pt_X10_rank_0
  refine g_aload_n dX10_rank_0 rfl ?_
  refine g_iconst (0 : Int32) dX10_rank_1 rfl ?_
  refine g_pfI fi_10_145 hr0 rfl rfl dX10_rank_2 ?_
  obtain ⟨μ_1, eμ_1⟩ : ∃ z : gMem, z = gsI μ 10 r0 0 (0 : Int32) := ⟨_, rfl⟩
  have h := h μ_1 eμ_1
  refine g_mem eμ_1.symm ?_
  refine g_aload_n dX10_rank_5 rfl ?_
  refine g_iload_n dX10_rank_6 rfl ?_
  obtain ⟨hd_2, h⟩ := h
  refine g_cV ca_X10_394 ob_10 (c_X10_isMan (d := 0) (Nat.le_refl _) hr0 ) hd_2 (by decide) hr0 rfl rfl (by first | exact Nat.le_of_ble_eq_true rfl | decide) dX10_rank_7 (kI (fun v_3 μ_4 hq_5 => ?_))
  obtain ⟨ev_3, eμ_4⟩ := hq_5
  subst ev_3
  refine g_mem eμ_4 ?_
  refine g_if_ne (tgt := 15) dX10_rank_10 (by decide) (fun c_6 => ?_) (fun c_6 => ?_)
  · have h := h.1 c_6
    refine g_iconst (0 : Int32) dX10_rank_15 rfl ?_
    refine g_istore_n dX10_rank_16 (by decide) (fun x2_7 ex2_7 => g_sub (lv' := [(0, .ref (D.2.2 10 r0)), (1, .int x1), (2, .int x2_7)]) [1, 2, 0] rfl ?_)
    have h := h x2_7 ex2_7
    refine g_iconst (0 : Int32) dX10_rank_17 rfl ?_
    refine g_istore_n dX10_rank_18 (by decide) (fun x3_8 ex3_8 => g_sub (lv' := [(0, .ref (D.2.2 10 r0)), (1, .int x1), (2, .int x2_7), (3, .int x3_8)]) [1, 2, 3, 0] rfl ?_)
    have h := h x3_8 ex3_8
    exact g_sub [0, 1, 2, 3] rfl h
  · have h := h.2 c_6
    refine g_iconst (-1 : Int32) dX10_rank_13 rfl ?_
    exact g_iret dX10_rank_14 rfl rfl ⟨_, rfl, h⟩
set_option maxRecDepth 20000 in
set_option maxHeartbeats 4000000 in
theorem bl_X10_rank_1 {l : Launch} {D : gD} {d : Nat} {q : Int32 → gMem → Prop} {Γ : gC} {r0 : Nat} {x1 : Int32} {x2 : Int32} {x3 : Int32} {μ : gMem} (hr0 : r0 < 1) (h : (((μ.1 707 r0 0) ≤ x3) → q x2 μ) ∧ ((¬ (μ.1 707 r0 0) ≤ x3) → ∃ j_3 : Nat, j_3 < 115 ∧ x3 = nI j_3 ∧ (∃ j_4 : Nat, j_4 < 115 ∧ x1 = nI j_4 ∧ ((((μ.1 744 r0 j_4) < (μ.1 744 r0 j_3)) → pt_X10_rank_2 l D d q Γ r0 x1 x3 x2 μ) ∧ ((¬ (μ.1 744 r0 j_4) < (μ.1 744 r0 j_3)) → ∃ j_6 : Nat, j_6 < 115 ∧ x3 = nI j_6 ∧ (∃ j_7 : Nat, j_7 < 115 ∧ x1 = nI j_7 ∧ (((¬ (μ.1 744 r0 j_6) = (μ.1 744 r0 j_7)) → pt_X10_rank_3 l D d q Γ r0 x1 x3 x2 μ) ∧ (((μ.1 744 r0 j_6) = (μ.1 744 r0 j_7)) → ((x1 ≤ x3) → pt_X10_rank_3 l D d q Γ r0 x1 x3 x2 μ) ∧ ((¬ x1 ≤ x3) → pt_X10_rank_2 l D d q Γ r0 x1 x3 x2 μ))))))))) : pt_X10_rank_1 l D d q Γ r0 x1 x2 x3 μ := by
  unfold pt_X10_rank_1
  refine g_iload_n dX10_rank_19 rfl ?_
  refine g_aload_n dX10_rank_20 rfl ?_
  refine g_gfR fl_10_13 rfl hr0 dX10_rank_21 ?_
  refine g_iconst (0 : Int32) dX10_rank_24 rfl ?_
  refine g_iald 0 hr0 rfl (by decide) (by decide) rfl dX10_rank_25 ?_
  refine g_icmp_ge (tgt := 78) dX10_rank_26 (by decide) (fun c_2 => ?_) (fun c_2 => ?_)
  · have h := h.1 c_2
    refine g_iload_n dX10_rank_78 rfl ?_
    exact g_iret dX10_rank_79 rfl rfl ⟨_, rfl, h⟩
  · have h := h.2 c_2
    refine g_iload_n dX10_rank_29 rfl ?_
    refine g_aload_n dX10_rank_30 rfl ?_
    refine g_gfR fl_10_87 rfl hr0 dX10_rank_31 ?_
    refine g_iload_n dX10_rank_34 rfl ?_
    obtain ⟨j_3, hj_3, ej_3, h⟩ := h
    refine g_iald j_3 hr0 rfl hj_3 (by decide) ej_3 dX10_rank_35 ?_
    refine g_aload_n dX10_rank_36 rfl ?_
    refine g_gfR fl_10_87 rfl hr0 dX10_rank_37 ?_
    refine g_iload_n dX10_rank_40 rfl ?_
    obtain ⟨j_4, hj_4, ej_4, h⟩ := h
    refine g_iald j_4 hr0 rfl hj_4 (by decide) ej_4 dX10_rank_41 ?_
    refine g_icmp_gt (tgt := 65) dX10_rank_42 (by decide) (fun c_5 => ?_) (fun c_5 => ?_)
    · have h := h.1 c_5
      exact g_sub [0, 1, 3] rfl h
    · have h := h.2 c_5
      refine g_aload_n dX10_rank_45 rfl ?_
      refine g_gfR fl_10_87 rfl hr0 dX10_rank_46 ?_
      refine g_iload_n dX10_rank_49 rfl ?_
      obtain ⟨j_6, hj_6, ej_6, h⟩ := h
      refine g_iald j_6 hr0 rfl hj_6 (by decide) ej_6 dX10_rank_50 ?_
      refine g_aload_n dX10_rank_51 rfl ?_
      refine g_gfR fl_10_87 rfl hr0 dX10_rank_52 ?_
      refine g_iload_n dX10_rank_55 rfl ?_
      obtain ⟨j_7, hj_7, ej_7, h⟩ := h
      refine g_iald j_7 hr0 rfl hj_7 (by decide) ej_7 dX10_rank_56 ?_
      refine g_icmp_ne (tgt := 69) dX10_rank_57 (by decide) (fun c_8 => ?_) (fun c_8 => ?_)
      · have h := h.1 c_8
        exact g_sub [0, 1, 3] rfl h
      · have h := h.2 c_8
        refine g_iload_n dX10_rank_60 rfl ?_
        refine g_iload_n dX10_rank_61 rfl ?_
        refine g_icmp_ge (tgt := 69) dX10_rank_62 (by decide) (fun c_9 => ?_) (fun c_9 => ?_)
        · have h := h.1 c_9
          exact g_sub [0, 1, 3] rfl h
        · have h := h.2 c_9
          exact g_sub [0, 1, 3] rfl h
set_option maxRecDepth 20000 in
set_option maxHeartbeats 4000000 in
theorem bl_X10_rank_2 {l : Launch} {D : gD} {d : Nat} {q : Int32 → gMem → Prop} {Γ : gC} {r0 : Nat} {x1 : Int32} {x3 : Int32} {xs0 : Int32} {μ : gMem} (hr0 : r0 < 1) (h : pt_X10_rank_4 l D d q Γ r0 x1 x3 xs0 (1 : Int32) μ) : pt_X10_rank_2 l D d q Γ r0 x1 x3 xs0 μ := by
  unfold pt_X10_rank_2
  refine g_iconst (1 : Int32) dX10_rank_65 rfl ?_
  refine g_goto (tgt := 70) dX10_rank_66 (by decide) ?_
  exact g_sub [0, 1, 2] rfl h
set_option maxRecDepth 20000 in
set_option maxHeartbeats 4000000 in
theorem bl_X10_rank_3 {l : Launch} {D : gD} {d : Nat} {q : Int32 → gMem → Prop} {Γ : gC} {r0 : Nat} {x1 : Int32} {x3 : Int32} {xs0 : Int32} {μ : gMem} (hr0 : r0 < 1) (h : pt_X10_rank_4 l D d q Γ r0 x1 x3 xs0 (0 : Int32) μ) : pt_X10_rank_3 l D d q Γ r0 x1 x3 xs0 μ := by
  unfold pt_X10_rank_3
  refine g_iconst (0 : Int32) dX10_rank_69 rfl ?_
  exact g_sub [0, 1, 2] rfl h
set_option maxRecDepth 20000 in
set_option maxHeartbeats 4000000 in
theorem bl_X10_rank_4 {l : Launch} {D : gD} {d : Nat} {q : Int32 → gMem → Prop} {Γ : gC} {r0 : Nat} {x1 : Int32} {x3 : Int32} {xs0 : Int32} {xs1 : Int32} {μ : gMem} (hr0 : r0 < 1) (h : ∀ x2_1 : Int32, x2_1 = xs0 + xs1 → ∀ x3_2 : Int32, x3_2 = x3 + (1 : Int32) → pt_X10_rank_1 l D d q Γ r0 x1 x2_1 x3_2 μ) : pt_X10_rank_4 l D d q Γ r0 x1 x3 xs0 xs1 μ := by
  unfold pt_X10_rank_4
  refine g_iadd dX10_rank_70 ?_
  refine g_istore_n dX10_rank_71 (by decide) (fun x2_1 ex2_1 => g_sub (lv' := [(0, .ref (D.2.2 10 r0)), (1, .int x1), (2, .int x2_1), (3, .int x3)]) [1, 2, 0, 3] rfl ?_)
  have h := h x2_1 ex2_1
  refine g_iinc dX10_rank_72 rfl (by decide) (fun x3_2 ex3_2 => g_sub (lv' := [(0, .ref (D.2.2 10 r0)), (1, .int x1), (2, .int x2_1), (3, .int x3_2)]) [1, 2, 3, 0] rfl ?_)
  have h := h x3_2 ex3_2
  refine g_goto (tgt := 19) dX10_rank_75 (by decide) ?_
  exact g_sub [0, 1, 2, 3] rfl h
theorem en_X10_rank {l : Launch} {D : gD} {d : Nat} {q : Int32 → gMem → Prop} {r0 : Nat} {x1 : Int32} {μ : gMem} (h : ∀ Γ : gC, pt_X10_rank_0 l D d q Γ r0 x1 μ) : Ctr l D d yX10_rank cX10_rank 4 (some .int) [.ref (D.2.2 10 r0), .int x1] μ (pI q) :=
  Ctr_of rfl (by decide) (Nat.le_of_ble_eq_true rfl) (fun Γ => g_sub [0, 1] rfl (h Γ))
def pt_X10_falls_0 (l : Launch) (D : gD) (d : Nat) (q : Int32 → gMem → Prop) (Γ : gC) (r0 : Nat) (x1 : Int32) (x2 : Int32) (μ : gMem) : Prop := G l D RX10 cX10_falls 3 (some .int) d (pI q) Γ 0 [(0, .ref (D.2.2 10 r0)), (1, .int x1), (2, .int x2)] [] μ
set_option maxRecDepth 20000 in
set_option maxHeartbeats 4000000 in
theorem bl_X10_falls_0 {l : Launch} {D : gD} {d : Nat} {q : Int32 → gMem → Prop} {Γ : gC} {r0 : Nat} {x1 : Int32} {x2 : Int32} {μ : gMem} (hr0 : r0 < 1) (h : ∀ μ_1 : gMem, μ_1 = gsI μ 10 r0 0 (0 : Int32) → (0 < d) ∧ ((((isn x1 (μ_1.1 707 r0 0)) = 0) → q (-1 : Int32) μ_1) ∧ ((¬ (isn x1 (μ_1.1 707 r0 0)) = 0) → ((x2 < 0) → q (-1 : Int32) μ_1) ∧ ((¬ x2 < 0) → ((x2 ≤ (99 : Int32)) → ∃ (d_9 : Nat) (q_10 : gMem → Prop), d_9 < d ∧ Ctr l D d_9 yX10_runs cX10_runs 3 none [.ref (D.2.2 10 r0), .int x2] μ_1 (pV q_10) ∧ ∀ (μ_13 : gMem), q_10 μ_13 → ∃ j_16 : Nat, j_16 < 115 ∧ (5 : Int32) + x1 = nI j_16 ∧ (∃ j_17 : Nat, j_17 < 115 ∧ x1 = nI j_17 ∧ (q ((μ_13.1 743 r0 j_16) - (μ_13.1 743 r0 j_17)) μ_13))) ∧ ((¬ x2 ≤ (99 : Int32)) → q (-1 : Int32) μ_1))))) : pt_X10_falls_0 l D d q Γ r0 x1 x2 μ := by
  unfold pt_X10_falls_0
  refine g_aload_n dX10_falls_0 rfl ?_
  refine g_iconst (0 : Int32) dX10_falls_1 rfl ?_
  refine g_pfI fi_10_145 hr0 rfl rfl dX10_falls_2 ?_
  obtain ⟨μ_1, eμ_1⟩ : ∃ z : gMem, z = gsI μ 10 r0 0 (0 : Int32) := ⟨_, rfl⟩
  have h := h μ_1 eμ_1
  refine g_mem eμ_1.symm ?_
  refine g_aload_n dX10_falls_5 rfl ?_
  refine g_iload_n dX10_falls_6 rfl ?_
  obtain ⟨hd_2, h⟩ := h
  refine g_cV ca_X10_394 ob_10 (c_X10_isMan (d := 0) (Nat.le_refl _) hr0 ) hd_2 (by decide) hr0 rfl rfl (by first | exact Nat.le_of_ble_eq_true rfl | decide) dX10_falls_7 (kI (fun v_3 μ_4 hq_5 => ?_))
  obtain ⟨ev_3, eμ_4⟩ := hq_5
  subst ev_3
  refine g_mem eμ_4 ?_
  refine g_if_eq (tgt := 23) dX10_falls_10 (by decide) (fun c_6 => ?_) (fun c_6 => ?_)
  · have h := h.1 c_6
    refine g_iconst (-1 : Int32) dX10_falls_23 rfl ?_
    exact g_iret dX10_falls_24 rfl rfl ⟨_, rfl, h⟩
  · have h := h.2 c_6
    refine g_iload_n dX10_falls_13 rfl ?_
    refine g_if_lt (tgt := 23) dX10_falls_14 (by decide) (fun c_7 => ?_) (fun c_7 => ?_)
    · have h := h.1 c_7
      refine g_iconst (-1 : Int32) dX10_falls_23 rfl ?_
      exact g_iret dX10_falls_24 rfl rfl ⟨_, rfl, h⟩
    · have h := h.2 c_7
      refine g_iload_n dX10_falls_17 rfl ?_
      refine g_bipush (99 : Int32) dX10_falls_18 rfl ?_
      refine g_icmp_le (tgt := 25) dX10_falls_20 (by decide) (fun c_8 => ?_) (fun c_8 => ?_)
      · have h := h.1 c_8
        refine g_aload_n dX10_falls_25 rfl ?_
        refine g_iload_n dX10_falls_26 rfl ?_
        obtain ⟨d_9, q_10, hd_11, hc_12, h⟩ := h
        refine g_cV ca_X10_407 ob_10 hc_12 hd_11 (by decide) hr0 rfl rfl (by first | exact Nat.le_of_ble_eq_true rfl | decide) dX10_falls_27 (kV (fun μ_13 hq_15 => ?_))
        have h := h μ_13 hq_15
        refine g_aload_n dX10_falls_30 rfl ?_
        refine g_gfR fl_10_84 rfl hr0 dX10_falls_31 ?_
        refine g_iconst (5 : Int32) dX10_falls_34 rfl ?_
        refine g_iload_n dX10_falls_35 rfl ?_
        refine g_iadd dX10_falls_36 ?_
        obtain ⟨j_16, hj_16, ej_16, h⟩ := h
        refine g_iald j_16 hr0 rfl hj_16 (by decide) ej_16 dX10_falls_37 ?_
        refine g_aload_n dX10_falls_38 rfl ?_
        refine g_gfR fl_10_84 rfl hr0 dX10_falls_39 ?_
        refine g_iload_n dX10_falls_42 rfl ?_
        obtain ⟨j_17, hj_17, ej_17, h⟩ := h
        refine g_iald j_17 hr0 rfl hj_17 (by decide) ej_17 dX10_falls_43 ?_
        refine g_isub dX10_falls_44 ?_
        exact g_iret dX10_falls_45 rfl rfl ⟨_, rfl, h⟩
      · have h := h.2 c_8
        refine g_iconst (-1 : Int32) dX10_falls_23 rfl ?_
        exact g_iret dX10_falls_24 rfl rfl ⟨_, rfl, h⟩
theorem en_X10_falls {l : Launch} {D : gD} {d : Nat} {q : Int32 → gMem → Prop} {r0 : Nat} {x1 : Int32} {x2 : Int32} {μ : gMem} (h : ∀ Γ : gC, pt_X10_falls_0 l D d q Γ r0 x1 x2 μ) : Ctr l D d yX10_falls cX10_falls 3 (some .int) [.ref (D.2.2 10 r0), .int x1, .int x2] μ (pI q) :=
  Ctr_of rfl (by decide) (Nat.le_of_ble_eq_true rfl) (fun Γ => g_sub [0, 1, 2] rfl (h Γ))
def pt_X10_earns_0 (l : Launch) (D : gD) (d : Nat) (q : Int32 → gMem → Prop) (Γ : gC) (r0 : Nat) (x1 : Int32) (x2 : Int32) (x3 : Int32) (μ : gMem) : Prop := G l D RX10 cX10_earns 5 (some .int) d (pI q) Γ 0 [(0, .ref (D.2.2 10 r0)), (1, .int x1), (2, .int x2), (3, .int x3)] [] μ
set_option maxRecDepth 20000 in
set_option maxHeartbeats 4000000 in
theorem bl_X10_earns_0 {l : Launch} {D : gD} {d : Nat} {q : Int32 → gMem → Prop} {Γ : gC} {r0 : Nat} {x1 : Int32} {x2 : Int32} {x3 : Int32} {μ : gMem} (hr0 : r0 < 1) (h : ∀ μ_1 : gMem, μ_1 = gsI μ 10 r0 0 (0 : Int32) → (0 < d) ∧ ((((isn x1 (μ_1.1 707 r0 0)) = 0) → q (-1 : Int32) μ_1) ∧ ((¬ (isn x1 (μ_1.1 707 r0 0)) = 0) → ((x2 < 0) → q (-1 : Int32) μ_1) ∧ ((¬ x2 < 0) → (((60 : Int32) < x2) → q (-1 : Int32) μ_1) ∧ ((¬ (60 : Int32) < x2) → ((x3 < 0) → q (-1 : Int32) μ_1) ∧ ((¬ x3 < 0) → ((x3 ≤ (1 : Int32)) → ∃ (d_11 : Nat) (q_12 : gMem → Prop), d_11 < d ∧ Ctr l D d_11 yX10_runs cX10_runs 3 none [.ref (D.2.2 10 r0), .int x2] μ_1 (pV q_12) ∧ ∀ (μ_15 : gMem), q_12 μ_15 → ∀ x4_18 : Int32, x4_18 = (5 : Int32) + x1 → ((¬ x3 = 0) → ∃ j_20 : Nat, j_20 < 115 ∧ x4_18 = nI j_20 ∧ (∃ j_21 : Nat, j_21 < 115 ∧ x1 = nI j_21 ∧ (q ((μ_15.1 750 r0 j_20) - (μ_15.1 750 r0 j_21)) μ_15))) ∧ ((x3 = 0) → ∃ j_22 : Nat, j_22 < 115 ∧ x4_18 = nI j_22 ∧ (∃ j_23 : Nat, j_23 < 115 ∧ x1 = nI j_23 ∧ (q ((μ_15.1 749 r0 j_22) - (μ_15.1 749 r0 j_23)) μ_15)))) ∧ ((¬ x3 ≤ (1 : Int32)) → q (-1 : Int32) μ_1))))))) : pt_X10_earns_0 l D d q Γ r0 x1 x2 x3 μ := by
  unfold pt_X10_earns_0
  refine g_aload_n dX10_earns_0 rfl ?_
  refine g_iconst (0 : Int32) dX10_earns_1 rfl ?_
  refine g_pfI fi_10_145 hr0 rfl rfl dX10_earns_2 ?_
  obtain ⟨μ_1, eμ_1⟩ : ∃ z : gMem, z = gsI μ 10 r0 0 (0 : Int32) := ⟨_, rfl⟩
  have h := h μ_1 eμ_1
  refine g_mem eμ_1.symm ?_
  refine g_aload_n dX10_earns_5 rfl ?_
  refine g_iload_n dX10_earns_6 rfl ?_
  obtain ⟨hd_2, h⟩ := h
  refine g_cV ca_X10_394 ob_10 (c_X10_isMan (d := 0) (Nat.le_refl _) hr0 ) hd_2 (by decide) hr0 rfl rfl (by first | exact Nat.le_of_ble_eq_true rfl | decide) dX10_earns_7 (kI (fun v_3 μ_4 hq_5 => ?_))
  obtain ⟨ev_3, eμ_4⟩ := hq_5
  subst ev_3
  refine g_mem eμ_4 ?_
  refine g_if_eq (tgt := 32) dX10_earns_10 (by decide) (fun c_6 => ?_) (fun c_6 => ?_)
  · have h := h.1 c_6
    refine g_iconst (-1 : Int32) dX10_earns_32 rfl ?_
    exact g_iret dX10_earns_33 rfl rfl ⟨_, rfl, h⟩
  · have h := h.2 c_6
    refine g_iload_n dX10_earns_13 rfl ?_
    refine g_if_lt (tgt := 32) dX10_earns_14 (by decide) (fun c_7 => ?_) (fun c_7 => ?_)
    · have h := h.1 c_7
      refine g_iconst (-1 : Int32) dX10_earns_32 rfl ?_
      exact g_iret dX10_earns_33 rfl rfl ⟨_, rfl, h⟩
    · have h := h.2 c_7
      refine g_iload_n dX10_earns_17 rfl ?_
      refine g_bipush (60 : Int32) dX10_earns_18 rfl ?_
      refine g_icmp_gt (tgt := 32) dX10_earns_20 (by decide) (fun c_8 => ?_) (fun c_8 => ?_)
      · have h := h.1 c_8
        refine g_iconst (-1 : Int32) dX10_earns_32 rfl ?_
        exact g_iret dX10_earns_33 rfl rfl ⟨_, rfl, h⟩
      · have h := h.2 c_8
        refine g_iload_n dX10_earns_23 rfl ?_
        refine g_if_lt (tgt := 32) dX10_earns_24 (by decide) (fun c_9 => ?_) (fun c_9 => ?_)
        · have h := h.1 c_9
          refine g_iconst (-1 : Int32) dX10_earns_32 rfl ?_
          exact g_iret dX10_earns_33 rfl rfl ⟨_, rfl, h⟩
        · have h := h.2 c_9
          refine g_iload_n dX10_earns_27 rfl ?_
          refine g_iconst (1 : Int32) dX10_earns_28 rfl ?_
          refine g_icmp_le (tgt := 34) dX10_earns_29 (by decide) (fun c_10 => ?_) (fun c_10 => ?_)
          · have h := h.1 c_10
            refine g_aload_n dX10_earns_34 rfl ?_
            refine g_iload_n dX10_earns_35 rfl ?_
            obtain ⟨d_11, q_12, hd_13, hc_14, h⟩ := h
            refine g_cV ca_X10_407 ob_10 hc_14 hd_13 (by decide) hr0 rfl rfl (by first | exact Nat.le_of_ble_eq_true rfl | decide) dX10_earns_36 (kV (fun μ_15 hq_17 => ?_))
            have h := h μ_15 hq_17
            refine g_iconst (5 : Int32) dX10_earns_39 rfl ?_
            refine g_iload_n dX10_earns_40 rfl ?_
            refine g_iadd dX10_earns_41 ?_
            refine g_istore dX10_earns_42 (by decide) (fun x4_18 ex4_18 => g_sub (lv' := [(0, .ref (D.2.2 10 r0)), (1, .int x1), (3, .int x3), (4, .int x4_18)]) [1, 2, 4, 0] rfl ?_)
            have h := h x4_18 ex4_18
            refine g_iload_n dX10_earns_44 rfl ?_
            refine g_if_ne (tgt := 65) dX10_earns_45 (by decide) (fun c_19 => ?_) (fun c_19 => ?_)
            · have h := h.1 c_19
              refine g_aload_n dX10_earns_65 rfl ?_
              refine g_gfR fl_10_105 rfl hr0 dX10_earns_66 ?_
              refine g_iload dX10_earns_69 rfl ?_
              obtain ⟨j_20, hj_20, ej_20, h⟩ := h
              refine g_iald j_20 hr0 rfl hj_20 (by decide) ej_20 dX10_earns_71 ?_
              refine g_aload_n dX10_earns_72 rfl ?_
              refine g_gfR fl_10_105 rfl hr0 dX10_earns_73 ?_
              refine g_iload_n dX10_earns_76 rfl ?_
              obtain ⟨j_21, hj_21, ej_21, h⟩ := h
              refine g_iald j_21 hr0 rfl hj_21 (by decide) ej_21 dX10_earns_77 ?_
              refine g_isub dX10_earns_78 ?_
              exact g_iret dX10_earns_79 rfl rfl ⟨_, rfl, h⟩
            · have h := h.2 c_19
              refine g_aload_n dX10_earns_48 rfl ?_
              refine g_gfR fl_10_102 rfl hr0 dX10_earns_49 ?_
              refine g_iload dX10_earns_52 rfl ?_
              obtain ⟨j_22, hj_22, ej_22, h⟩ := h
              refine g_iald j_22 hr0 rfl hj_22 (by decide) ej_22 dX10_earns_54 ?_
              refine g_aload_n dX10_earns_55 rfl ?_
              refine g_gfR fl_10_102 rfl hr0 dX10_earns_56 ?_
              refine g_iload_n dX10_earns_59 rfl ?_
              obtain ⟨j_23, hj_23, ej_23, h⟩ := h
              refine g_iald j_23 hr0 rfl hj_23 (by decide) ej_23 dX10_earns_60 ?_
              refine g_isub dX10_earns_61 ?_
              refine g_goto (tgt := 79) dX10_earns_62 (by decide) ?_
              exact g_iret dX10_earns_79 rfl rfl ⟨_, rfl, h⟩
          · have h := h.2 c_10
            refine g_iconst (-1 : Int32) dX10_earns_32 rfl ?_
            exact g_iret dX10_earns_33 rfl rfl ⟨_, rfl, h⟩
theorem en_X10_earns {l : Launch} {D : gD} {d : Nat} {q : Int32 → gMem → Prop} {r0 : Nat} {x1 : Int32} {x2 : Int32} {x3 : Int32} {μ : gMem} (h : ∀ Γ : gC, pt_X10_earns_0 l D d q Γ r0 x1 x2 x3 μ) : Ctr l D d yX10_earns cX10_earns 5 (some .int) [.ref (D.2.2 10 r0), .int x1, .int x2, .int x3] μ (pI q) :=
  Ctr_of rfl (by decide) (Nat.le_of_ble_eq_true rfl) (fun Γ => g_sub [0, 1, 2, 3] rfl (h Γ))
def pt_X10_layFurther_0 (l : Launch) (D : gD) (d : Nat) (q : gMem → Prop) (Γ : gC) (r0 : Nat) (x1 : Int32) (x2 : Int32) (μ : gMem) : Prop := G l D RX10 cX10_layFurther 5 none d (pV q) Γ 0 [(0, .ref (D.2.2 10 r0)), (1, .int x1), (2, .int x2)] [] μ
def pt_X10_layFurther_1 (l : Launch) (D : gD) (d : Nat) (q : gMem → Prop) (Γ : gC) (r0 : Nat) (x1 : Int32) (x2 : Int32) (x3 : Int32) (μ : gMem) : Prop := G l D RX10 cX10_layFurther 5 none d (pV q) Γ 2 [(0, .ref (D.2.2 10 r0)), (1, .int x1), (2, .int x2), (3, .int x3)] [] μ
def pt_X10_layFurther_2 (l : Launch) (D : gD) (d : Nat) (q : gMem → Prop) (Γ : gC) (r0 : Nat) (x1 : Int32) (x2 : Int32) (x3 : Int32) (x4 : Int32) (rs0 : Nat) (xs1 : Int32) (xs2 : Int32) (μ : gMem) : Prop := G l D RX10 cX10_layFurther 5 none d (pV q) Γ 75 [(0, .ref (D.2.2 10 r0)), (1, .int x1), (2, .int x2), (3, .int x3), (4, .int x4)] [.int xs2, .int xs1, .ref (D.2.2 757 rs0)] μ
def pt_X10_layFurther_3 (l : Launch) (D : gD) (d : Nat) (q : gMem → Prop) (Γ : gC) (r0 : Nat) (x1 : Int32) (x2 : Int32) (x3 : Int32) (rs0 : Nat) (xs1 : Int32) (xs2 : Int32) (μ : gMem) : Prop := G l D RX10 cX10_layFurther 5 none d (pV q) Γ 103 [(0, .ref (D.2.2 10 r0)), (1, .int x1), (2, .int x2), (3, .int x3)] [.int xs2, .int xs1, .ref (D.2.2 758 rs0)] μ
set_option maxRecDepth 20000 in
set_option maxHeartbeats 4000000 in
theorem bl_X10_layFurther_0 {l : Launch} {D : gD} {d : Nat} {q : gMem → Prop} {Γ : gC} {r0 : Nat} {x1 : Int32} {x2 : Int32} {μ : gMem} (hr0 : r0 < 1) (h : ∀ x3_1 : Int32, x3_1 = (0 : Int32) → pt_X10_layFurther_1 l D d q Γ r0 x1 x2 x3_1 μ) : pt_X10_layFurther_0 l D d q Γ r0 x1 x2 μ := by
  unfold pt_X10_layFurther_0
  refine g_iconst (0 : Int32) dX10_layFurther_0 rfl ?_
  refine g_istore_n dX10_layFurther_1 (by decide) (fun x3_1 ex3_1 => g_sub (lv' := [(0, .ref (D.2.2 10 r0)), (1, .int x1), (2, .int x2), (3, .int x3_1)]) [1, 2, 3, 0] rfl ?_)
  have h := h x3_1 ex3_1
  exact g_sub [0, 1, 2, 3] rfl h
set_option maxRecDepth 20000 in
set_option maxHeartbeats 4000000 in
theorem bl_X10_layFurther_1 {l : Launch} {D : gD} {d : Nat} {q : gMem → Prop} {Γ : gC} {r0 : Nat} {x1 : Int32} {x2 : Int32} {x3 : Int32} {μ : gMem} (hr0 : r0 < 1) (h : (((25 : Int32) ≤ x3) → q μ) ∧ ((¬ (25 : Int32) ≤ x3) → ∃ (d_2 : Nat) (q_3 : gMem → Prop), d_2 < d ∧ Ctr l D d_2 yX10_copies cX10_copies 6 none [.ref (D.2.2 10 r0), .int (1 : Int32), .int (0 : Int32)] μ (pV q_3) ∧ ∀ (μ_6 : gMem), q_3 μ_6 → ∃ j_9 : Nat, j_9 < 115 ∧ (5 : Int32) + x1 = nI j_9 ∧ (∃ j_10 : Nat, j_10 < 115 ∧ (5 : Int32) + x1 = nI j_10 ∧ (∀ μ_11 : gMem, μ_11 = gsI μ_6 748 r0 j_10 ((μ_6.1 748 r0 j_9) + ((10 : Int32) * (x3 / (5 : Int32)))) → ∃ j_12 : Nat, j_12 < 115 ∧ (5 : Int32) + x2 = nI j_12 ∧ (∃ j_13 : Nat, j_13 < 115 ∧ (5 : Int32) + x2 = nI j_13 ∧ (∀ μ_14 : gMem, μ_14 = gsI μ_11 748 r0 j_13 ((μ_11.1 748 r0 j_12) + ((10 : Int32) * (x3 - x3 / (5 : Int32) * (5 : Int32)))) → ∃ (d_15 : Nat) (q_16 : Int32 → gMem → Prop), d_15 < d ∧ Ctr l D d_15 yX10_winsFrom cX10_winsFrom 1 (some .int) [.ref (D.2.2 10 r0)] μ_14 (pI q_16) ∧ ∀ (v_20 : Int32) (μ_19 : gMem), q_16 v_20 μ_19 → ∀ x4_22 : Int32, x4_22 = v_20 → ((¬ x4_22 = x1) → pt_X10_layFurther_2 l D d q Γ r0 x1 x2 x3 x4_22 r0 x3 (0 : Int32) μ_19) ∧ ((x4_22 = x1) → pt_X10_layFurther_2 l D d q Γ r0 x1 x2 x3 x4_22 r0 x3 (μ_19.1 707 r0 3) μ_19))))))) : pt_X10_layFurther_1 l D d q Γ r0 x1 x2 x3 μ := by
  unfold pt_X10_layFurther_1
  refine g_iload_n dX10_layFurther_2 rfl ?_
  refine g_bipush (25 : Int32) dX10_layFurther_3 rfl ?_
  refine g_icmp_ge (tgt := 116) dX10_layFurther_5 (by decide) (fun c_1 => ?_) (fun c_1 => ?_)
  · have h := h.1 c_1
    exact g_vret dX10_layFurther_116 rfl ⟨rfl, h⟩
  · have h := h.2 c_1
    refine g_aload_n dX10_layFurther_8 rfl ?_
    refine g_iconst (1 : Int32) dX10_layFurther_9 rfl ?_
    refine g_iconst (0 : Int32) dX10_layFurther_10 rfl ?_
    obtain ⟨d_2, q_3, hd_4, hc_5, h⟩ := h
    refine g_cV ca_X10_387 ob_10 hc_5 hd_4 (by decide) hr0 rfl rfl (by first | exact Nat.le_of_ble_eq_true rfl | decide) dX10_layFurther_11 (kV (fun μ_6 hq_8 => ?_))
    have h := h μ_6 hq_8
    refine g_aload_n dX10_layFurther_14 rfl ?_
    refine g_gfR fl_10_99 rfl hr0 dX10_layFurther_15 ?_
    refine g_iconst (5 : Int32) dX10_layFurther_18 rfl ?_
    refine g_iload_n dX10_layFurther_19 rfl ?_
    refine g_iadd dX10_layFurther_20 ?_
    refine g_dup2 dX10_layFurther_21 rfl rfl ?_
    obtain ⟨j_9, hj_9, ej_9, h⟩ := h
    refine g_iald j_9 hr0 rfl hj_9 (by decide) ej_9 dX10_layFurther_22 ?_
    refine g_bipush (10 : Int32) dX10_layFurther_23 rfl ?_
    refine g_iload_n dX10_layFurther_25 rfl ?_
    refine g_iconst (5 : Int32) dX10_layFurther_26 rfl ?_
    refine g_idiv dX10_layFurther_27 (by decide) ?_
    refine g_imul dX10_layFurther_28 ?_
    refine g_iadd dX10_layFurther_29 ?_
    obtain ⟨j_10, hj_10, ej_10, h⟩ := h
    refine g_iast j_10 hr0 rfl hj_10 (by decide) ej_10 dX10_layFurther_30 ?_
    obtain ⟨μ_11, eμ_11⟩ : ∃ z : gMem, z = gsI μ_6 748 r0 j_10 ((μ_6.1 748 r0 j_9) + ((10 : Int32) * (x3 / (5 : Int32)))) := ⟨_, rfl⟩
    have h := h μ_11 eμ_11
    refine g_mem eμ_11.symm ?_
    refine g_aload_n dX10_layFurther_31 rfl ?_
    refine g_gfR fl_10_99 rfl hr0 dX10_layFurther_32 ?_
    refine g_iconst (5 : Int32) dX10_layFurther_35 rfl ?_
    refine g_iload_n dX10_layFurther_36 rfl ?_
    refine g_iadd dX10_layFurther_37 ?_
    refine g_dup2 dX10_layFurther_38 rfl rfl ?_
    obtain ⟨j_12, hj_12, ej_12, h⟩ := h
    refine g_iald j_12 hr0 rfl hj_12 (by decide) ej_12 dX10_layFurther_39 ?_
    refine g_bipush (10 : Int32) dX10_layFurther_40 rfl ?_
    refine g_iload_n dX10_layFurther_42 rfl ?_
    refine g_iconst (5 : Int32) dX10_layFurther_43 rfl ?_
    refine g_irem dX10_layFurther_44 (by decide) ?_
    refine g_imul dX10_layFurther_45 ?_
    refine g_iadd dX10_layFurther_46 ?_
    obtain ⟨j_13, hj_13, ej_13, h⟩ := h
    refine g_iast j_13 hr0 rfl hj_13 (by decide) ej_13 dX10_layFurther_47 ?_
    obtain ⟨μ_14, eμ_14⟩ : ∃ z : gMem, z = gsI μ_11 748 r0 j_13 ((μ_11.1 748 r0 j_12) + ((10 : Int32) * (x3 - x3 / (5 : Int32) * (5 : Int32)))) := ⟨_, rfl⟩
    have h := h μ_14 eμ_14
    refine g_mem eμ_14.symm ?_
    refine g_aload_n dX10_layFurther_48 rfl ?_
    obtain ⟨d_15, q_16, hd_17, hc_18, h⟩ := h
    refine g_cV ca_X10_413 ob_10 hc_18 hd_17 (by decide) hr0 rfl rfl (by first | exact Nat.le_of_ble_eq_true rfl | decide) dX10_layFurther_49 (kI (fun v_20 μ_19 hq_21 => ?_))
    have h := h v_20 μ_19 hq_21
    refine g_istore dX10_layFurther_52 (by decide) (fun x4_22 ex4_22 => g_sub (lv' := [(0, .ref (D.2.2 10 r0)), (1, .int x1), (2, .int x2), (3, .int x3), (4, .int x4_22)]) [1, 2, 3, 4, 0] rfl ?_)
    have h := h x4_22 ex4_22
    refine g_aload_n dX10_layFurther_54 rfl ?_
    refine g_gfR fl_10_114 rfl hr0 dX10_layFurther_55 ?_
    refine g_iload_n dX10_layFurther_58 rfl ?_
    refine g_iload dX10_layFurther_59 rfl ?_
    refine g_iload_n dX10_layFurther_61 rfl ?_
    refine g_icmp_ne (tgt := 74) dX10_layFurther_62 (by decide) (fun c_23 => ?_) (fun c_23 => ?_)
    · have h := h.1 c_23
      refine g_iconst (0 : Int32) dX10_layFurther_74 rfl ?_
      exact g_sub [0, 1, 2, 3, 4] rfl h
    · have h := h.2 c_23
      refine g_aload_n dX10_layFurther_65 rfl ?_
      refine g_gfR fl_10_13 rfl hr0 dX10_layFurther_66 ?_
      refine g_iconst (3 : Int32) dX10_layFurther_69 rfl ?_
      refine g_iald 3 hr0 rfl (by decide) (by decide) rfl dX10_layFurther_70 ?_
      refine g_goto (tgt := 75) dX10_layFurther_71 (by decide) ?_
      exact g_sub [0, 1, 2, 3, 4] rfl h
set_option maxRecDepth 20000 in
set_option maxHeartbeats 4000000 in
theorem bl_X10_layFurther_2 {l : Launch} {D : gD} {d : Nat} {q : gMem → Prop} {Γ : gC} {r0 : Nat} {x1 : Int32} {x2 : Int32} {x3 : Int32} {x4 : Int32} {rs0 : Nat} {xs1 : Int32} {xs2 : Int32} {μ : gMem} (hr0 : r0 < 1) (hrs0 : rs0 < 1) (h : ∃ j_1 : Nat, j_1 < 25 ∧ xs1 = nI j_1 ∧ (∀ μ_2 : gMem, μ_2 = gsI μ 757 rs0 j_1 (xs2 - ((3 : Int32) * (x3 / (5 : Int32)))) → ((¬ x4 = x2) → pt_X10_layFurther_3 l D d q Γ r0 x1 x2 x3 r0 x3 (0 : Int32) μ_2) ∧ ((x4 = x2) → pt_X10_layFurther_3 l D d q Γ r0 x1 x2 x3 r0 x3 (μ_2.1 707 r0 3) μ_2))) : pt_X10_layFurther_2 l D d q Γ r0 x1 x2 x3 x4 rs0 xs1 xs2 μ := by
  unfold pt_X10_layFurther_2
  refine g_iconst (3 : Int32) dX10_layFurther_75 rfl ?_
  refine g_iload_n dX10_layFurther_76 rfl ?_
  refine g_iconst (5 : Int32) dX10_layFurther_77 rfl ?_
  refine g_idiv dX10_layFurther_78 (by decide) ?_
  refine g_imul dX10_layFurther_79 ?_
  refine g_isub dX10_layFurther_80 ?_
  obtain ⟨j_1, hj_1, ej_1, h⟩ := h
  refine g_iast j_1 hrs0 rfl hj_1 (by decide) ej_1 dX10_layFurther_81 ?_
  obtain ⟨μ_2, eμ_2⟩ : ∃ z : gMem, z = gsI μ 757 rs0 j_1 (xs2 - ((3 : Int32) * (x3 / (5 : Int32)))) := ⟨_, rfl⟩
  have h := h μ_2 eμ_2
  refine g_mem eμ_2.symm ?_
  refine g_aload_n dX10_layFurther_82 rfl ?_
  refine g_gfR fl_10_117 rfl hr0 dX10_layFurther_83 ?_
  refine g_iload_n dX10_layFurther_86 rfl ?_
  refine g_iload dX10_layFurther_87 rfl ?_
  refine g_iload_n dX10_layFurther_89 rfl ?_
  refine g_icmp_ne (tgt := 102) dX10_layFurther_90 (by decide) (fun c_3 => ?_) (fun c_3 => ?_)
  · have h := h.1 c_3
    refine g_iconst (0 : Int32) dX10_layFurther_102 rfl ?_
    exact g_sub [0, 1, 2, 3] rfl h
  · have h := h.2 c_3
    refine g_aload_n dX10_layFurther_93 rfl ?_
    refine g_gfR fl_10_13 rfl hr0 dX10_layFurther_94 ?_
    refine g_iconst (3 : Int32) dX10_layFurther_97 rfl ?_
    refine g_iald 3 hr0 rfl (by decide) (by decide) rfl dX10_layFurther_98 ?_
    refine g_goto (tgt := 103) dX10_layFurther_99 (by decide) ?_
    exact g_sub [0, 1, 2, 3] rfl h
set_option maxRecDepth 20000 in
set_option maxHeartbeats 4000000 in
theorem bl_X10_layFurther_3 {l : Launch} {D : gD} {d : Nat} {q : gMem → Prop} {Γ : gC} {r0 : Nat} {x1 : Int32} {x2 : Int32} {x3 : Int32} {rs0 : Nat} {xs1 : Int32} {xs2 : Int32} {μ : gMem} (hr0 : r0 < 1) (hrs0 : rs0 < 1) (h : ∃ j_1 : Nat, j_1 < 25 ∧ xs1 = nI j_1 ∧ (∀ μ_2 : gMem, μ_2 = gsI μ 758 rs0 j_1 (xs2 - ((3 : Int32) * (x3 - x3 / (5 : Int32) * (5 : Int32)))) → ∀ x3_3 : Int32, x3_3 = x3 + (1 : Int32) → pt_X10_layFurther_1 l D d q Γ r0 x1 x2 x3_3 μ_2)) : pt_X10_layFurther_3 l D d q Γ r0 x1 x2 x3 rs0 xs1 xs2 μ := by
  unfold pt_X10_layFurther_3
  refine g_iconst (3 : Int32) dX10_layFurther_103 rfl ?_
  refine g_iload_n dX10_layFurther_104 rfl ?_
  refine g_iconst (5 : Int32) dX10_layFurther_105 rfl ?_
  refine g_irem dX10_layFurther_106 (by decide) ?_
  refine g_imul dX10_layFurther_107 ?_
  refine g_isub dX10_layFurther_108 ?_
  obtain ⟨j_1, hj_1, ej_1, h⟩ := h
  refine g_iast j_1 hrs0 rfl hj_1 (by decide) ej_1 dX10_layFurther_109 ?_
  obtain ⟨μ_2, eμ_2⟩ : ∃ z : gMem, z = gsI μ 758 rs0 j_1 (xs2 - ((3 : Int32) * (x3 - x3 / (5 : Int32) * (5 : Int32)))) := ⟨_, rfl⟩
  have h := h μ_2 eμ_2
  refine g_mem eμ_2.symm ?_
  refine g_iinc dX10_layFurther_110 rfl (by decide) (fun x3_3 ex3_3 => g_sub (lv' := [(0, .ref (D.2.2 10 r0)), (1, .int x1), (2, .int x2), (3, .int x3_3)]) [1, 2, 3, 0] rfl ?_)
  have h := h x3_3 ex3_3
  refine g_goto (tgt := 2) dX10_layFurther_113 (by decide) ?_
  exact g_sub [0, 1, 2, 3] rfl h
theorem en_X10_layFurther {l : Launch} {D : gD} {d : Nat} {q : gMem → Prop} {r0 : Nat} {x1 : Int32} {x2 : Int32} {μ : gMem} (h : ∀ Γ : gC, pt_X10_layFurther_0 l D d q Γ r0 x1 x2 μ) : Ctr l D d yX10_layFurther cX10_layFurther 5 none [.ref (D.2.2 10 r0), .int x1, .int x2] μ (pV q) :=
  Ctr_of rfl (by decide) (Nat.le_of_ble_eq_true rfl) (fun Γ => g_sub [0, 1, 2] rfl (h Γ))
def pt_X10_isRest_0 (l : Launch) (D : gD) (d : Nat) (q : Int32 → gMem → Prop) (Γ : gC) (r0 : Nat) (x1 : Int32) (μ : gMem) : Prop := G l D RX10 cX10_isRest 3 (some .boolean) d (pI q) Γ 0 [(0, .ref (D.2.2 10 r0)), (1, .int x1)] [] μ
def pt_X10_isRest_1 (l : Launch) (D : gD) (d : Nat) (q : Int32 → gMem → Prop) (Γ : gC) (r0 : Nat) (x1 : Int32) (x2 : Int32) (μ : gMem) : Prop := G l D RX10 cX10_isRest 3 (some .boolean) d (pI q) Γ 2 [(0, .ref (D.2.2 10 r0)), (1, .int x1), (2, .int x2)] [] μ
set_option maxRecDepth 20000 in
set_option maxHeartbeats 4000000 in
theorem bl_X10_isRest_0 {l : Launch} {D : gD} {d : Nat} {q : Int32 → gMem → Prop} {Γ : gC} {r0 : Nat} {x1 : Int32} {μ : gMem} (hr0 : r0 < 1) (h : ∀ x2_1 : Int32, x2_1 = (0 : Int32) → pt_X10_isRest_1 l D d q Γ r0 x1 x2_1 μ) : pt_X10_isRest_0 l D d q Γ r0 x1 μ := by
  unfold pt_X10_isRest_0
  refine g_iconst (0 : Int32) dX10_isRest_0 rfl ?_
  refine g_istore_n dX10_isRest_1 (by decide) (fun x2_1 ex2_1 => g_sub (lv' := [(0, .ref (D.2.2 10 r0)), (1, .int x1), (2, .int x2_1)]) [1, 2, 0] rfl ?_)
  have h := h x2_1 ex2_1
  exact g_sub [0, 1, 2] rfl h
set_option maxRecDepth 20000 in
set_option maxHeartbeats 4000000 in
theorem bl_X10_isRest_1 {l : Launch} {D : gD} {d : Nat} {q : Int32 → gMem → Prop} {Γ : gC} {r0 : Nat} {x1 : Int32} {x2 : Int32} {μ : gMem} (hr0 : r0 < 1) (h : (((5 : Int32) ≤ x2) → q (1 : Int32) μ) ∧ ((¬ (5 : Int32) ≤ x2) → ∃ j_2 : Nat, j_2 < 25 ∧ ((5 : Int32) * x2) + (x1 - x1 / (5 : Int32) * (5 : Int32)) = nI j_2 ∧ (∃ j_3 : Nat, j_3 < 25 ∧ x1 = nI j_3 ∧ ((((μ.1 757 r0 j_3) < (μ.1 757 r0 j_2)) → q (0 : Int32) μ) ∧ ((¬ (μ.1 757 r0 j_3) < (μ.1 757 r0 j_2)) → ∃ j_5 : Nat, j_5 < 25 ∧ ((x1 / (5 : Int32)) * (5 : Int32)) + x2 = nI j_5 ∧ (∃ j_6 : Nat, j_6 < 25 ∧ x1 = nI j_6 ∧ ((((μ.1 758 r0 j_5) ≤ (μ.1 758 r0 j_6)) → ∀ x2_8 : Int32, x2_8 = x2 + (1 : Int32) → pt_X10_isRest_1 l D d q Γ r0 x1 x2_8 μ) ∧ ((¬ (μ.1 758 r0 j_5) ≤ (μ.1 758 r0 j_6)) → q (0 : Int32) μ)))))))) : pt_X10_isRest_1 l D d q Γ r0 x1 x2 μ := by
  unfold pt_X10_isRest_1
  refine g_iload_n dX10_isRest_2 rfl ?_
  refine g_iconst (5 : Int32) dX10_isRest_3 rfl ?_
  refine g_icmp_ge (tgt := 57) dX10_isRest_4 (by decide) (fun c_1 => ?_) (fun c_1 => ?_)
  · have h := h.1 c_1
    refine g_iconst (1 : Int32) dX10_isRest_57 rfl ?_
    exact g_iret dX10_isRest_58 rfl rfl ⟨_, rfl, h⟩
  · have h := h.2 c_1
    refine g_aload_n dX10_isRest_7 rfl ?_
    refine g_gfR fl_10_114 rfl hr0 dX10_isRest_8 ?_
    refine g_iconst (5 : Int32) dX10_isRest_11 rfl ?_
    refine g_iload_n dX10_isRest_12 rfl ?_
    refine g_imul dX10_isRest_13 ?_
    refine g_iload_n dX10_isRest_14 rfl ?_
    refine g_iconst (5 : Int32) dX10_isRest_15 rfl ?_
    refine g_irem dX10_isRest_16 (by decide) ?_
    refine g_iadd dX10_isRest_17 ?_
    obtain ⟨j_2, hj_2, ej_2, h⟩ := h
    refine g_iald j_2 hr0 rfl hj_2 (by decide) ej_2 dX10_isRest_18 ?_
    refine g_aload_n dX10_isRest_19 rfl ?_
    refine g_gfR fl_10_114 rfl hr0 dX10_isRest_20 ?_
    refine g_iload_n dX10_isRest_23 rfl ?_
    obtain ⟨j_3, hj_3, ej_3, h⟩ := h
    refine g_iald j_3 hr0 rfl hj_3 (by decide) ej_3 dX10_isRest_24 ?_
    refine g_icmp_gt (tgt := 49) dX10_isRest_25 (by decide) (fun c_4 => ?_) (fun c_4 => ?_)
    · have h := h.1 c_4
      refine g_iconst (0 : Int32) dX10_isRest_49 rfl ?_
      exact g_iret dX10_isRest_50 rfl rfl ⟨_, rfl, h⟩
    · have h := h.2 c_4
      refine g_aload_n dX10_isRest_28 rfl ?_
      refine g_gfR fl_10_117 rfl hr0 dX10_isRest_29 ?_
      refine g_iload_n dX10_isRest_32 rfl ?_
      refine g_iconst (5 : Int32) dX10_isRest_33 rfl ?_
      refine g_idiv dX10_isRest_34 (by decide) ?_
      refine g_iconst (5 : Int32) dX10_isRest_35 rfl ?_
      refine g_imul dX10_isRest_36 ?_
      refine g_iload_n dX10_isRest_37 rfl ?_
      refine g_iadd dX10_isRest_38 ?_
      obtain ⟨j_5, hj_5, ej_5, h⟩ := h
      refine g_iald j_5 hr0 rfl hj_5 (by decide) ej_5 dX10_isRest_39 ?_
      refine g_aload_n dX10_isRest_40 rfl ?_
      refine g_gfR fl_10_117 rfl hr0 dX10_isRest_41 ?_
      refine g_iload_n dX10_isRest_44 rfl ?_
      obtain ⟨j_6, hj_6, ej_6, h⟩ := h
      refine g_iald j_6 hr0 rfl hj_6 (by decide) ej_6 dX10_isRest_45 ?_
      refine g_icmp_le (tgt := 51) dX10_isRest_46 (by decide) (fun c_7 => ?_) (fun c_7 => ?_)
      · have h := h.1 c_7
        refine g_iinc dX10_isRest_51 rfl (by decide) (fun x2_8 ex2_8 => g_sub (lv' := [(0, .ref (D.2.2 10 r0)), (1, .int x1), (2, .int x2_8)]) [1, 2, 0] rfl ?_)
        have h := h x2_8 ex2_8
        refine g_goto (tgt := 2) dX10_isRest_54 (by decide) ?_
        exact g_sub [0, 1, 2] rfl h
      · have h := h.2 c_7
        refine g_iconst (0 : Int32) dX10_isRest_49 rfl ?_
        exact g_iret dX10_isRest_50 rfl rfl ⟨_, rfl, h⟩
theorem en_X10_isRest {l : Launch} {D : gD} {d : Nat} {q : Int32 → gMem → Prop} {r0 : Nat} {x1 : Int32} {μ : gMem} (h : ∀ Γ : gC, pt_X10_isRest_0 l D d q Γ r0 x1 μ) : Ctr l D d yX10_isRest cX10_isRest 3 (some .boolean) [.ref (D.2.2 10 r0), .int x1] μ (pI q) :=
  Ctr_of rfl (by decide) (Nat.le_of_ble_eq_true rfl) (fun Γ => g_sub [0, 1] rfl (h Γ))
def pt_X10_restOf_0 (l : Launch) (D : gD) (d : Nat) (q : Int32 → gMem → Prop) (Γ : gC) (r0 : Nat) (x1 : Int32) (μ : gMem) : Prop := G l D RX10 cX10_restOf 4 (some .int) d (pI q) Γ 0 [(0, .ref (D.2.2 10 r0)), (1, .int x1)] [] μ
def pt_X10_restOf_1 (l : Launch) (D : gD) (d : Nat) (q : Int32 → gMem → Prop) (Γ : gC) (r0 : Nat) (x1 : Int32) (x2 : Int32) (x3 : Int32) (μ : gMem) : Prop := G l D RX10 cX10_restOf 4 (some .int) d (pI q) Γ 4 [(0, .ref (D.2.2 10 r0)), (1, .int x1), (2, .int x2), (3, .int x3)] [] μ
def pt_X10_restOf_2 (l : Launch) (D : gD) (d : Nat) (q : Int32 → gMem → Prop) (Γ : gC) (r0 : Nat) (x1 : Int32) (x2 : Int32) (x3 : Int32) (μ : gMem) : Prop := G l D RX10 cX10_restOf 4 (some .int) d (pI q) Γ 40 [(0, .ref (D.2.2 10 r0)), (1, .int x1), (2, .int x2), (3, .int x3)] [] μ
set_option maxRecDepth 20000 in
set_option maxHeartbeats 4000000 in
theorem bl_X10_restOf_0 {l : Launch} {D : gD} {d : Nat} {q : Int32 → gMem → Prop} {Γ : gC} {r0 : Nat} {x1 : Int32} {μ : gMem} (hr0 : r0 < 1) (h : ∀ x2_1 : Int32, x2_1 = (0 : Int32) → ∀ x3_2 : Int32, x3_2 = (0 : Int32) → pt_X10_restOf_1 l D d q Γ r0 x1 x2_1 x3_2 μ) : pt_X10_restOf_0 l D d q Γ r0 x1 μ := by
  unfold pt_X10_restOf_0
  refine g_iconst (0 : Int32) dX10_restOf_0 rfl ?_
  refine g_istore_n dX10_restOf_1 (by decide) (fun x2_1 ex2_1 => g_sub (lv' := [(0, .ref (D.2.2 10 r0)), (1, .int x1), (2, .int x2_1)]) [1, 2, 0] rfl ?_)
  have h := h x2_1 ex2_1
  refine g_iconst (0 : Int32) dX10_restOf_2 rfl ?_
  refine g_istore_n dX10_restOf_3 (by decide) (fun x3_2 ex3_2 => g_sub (lv' := [(0, .ref (D.2.2 10 r0)), (1, .int x1), (2, .int x2_1), (3, .int x3_2)]) [1, 2, 3, 0] rfl ?_)
  have h := h x3_2 ex3_2
  exact g_sub [0, 1, 2, 3] rfl h
set_option maxRecDepth 20000 in
set_option maxHeartbeats 4000000 in
theorem bl_X10_restOf_1 {l : Launch} {D : gD} {d : Nat} {q : Int32 → gMem → Prop} {Γ : gC} {r0 : Nat} {x1 : Int32} {x2 : Int32} {x3 : Int32} {μ : gMem} (hr0 : r0 < 1) (h : (((25 : Int32) ≤ x3) → ((¬ x1 = (-1 : Int32)) → q (-2 : Int32) μ) ∧ ((x1 = (-1 : Int32)) → q x2 μ)) ∧ ((¬ (25 : Int32) ≤ x3) → ∃ (d_3 : Nat) (q_4 : Int32 → gMem → Prop), d_3 < d ∧ Ctr l D d_3 yX10_isRest cX10_isRest 3 (some .boolean) [.ref (D.2.2 10 r0), .int x3] μ (pI q_4) ∧ ∀ (v_8 : Int32) (μ_7 : gMem), q_4 v_8 μ_7 → ((¬ v_8 = 0) → ((¬ x2 = x1) → ∀ x2_12 : Int32, x2_12 = x2 + (1 : Int32) → pt_X10_restOf_2 l D d q Γ r0 x1 x2_12 x3 μ_7) ∧ ((x2 = x1) → q (((10 : Int32) * (x3 / (5 : Int32))) + (x3 - x3 / (5 : Int32) * (5 : Int32))) μ_7)) ∧ ((v_8 = 0) → pt_X10_restOf_2 l D d q Γ r0 x1 x2 x3 μ_7))) : pt_X10_restOf_1 l D d q Γ r0 x1 x2 x3 μ := by
  unfold pt_X10_restOf_1
  refine g_iload_n dX10_restOf_4 rfl ?_
  refine g_bipush (25 : Int32) dX10_restOf_5 rfl ?_
  refine g_icmp_ge (tgt := 46) dX10_restOf_7 (by decide) (fun c_1 => ?_) (fun c_1 => ?_)
  · have h := h.1 c_1
    refine g_iload_n dX10_restOf_46 rfl ?_
    refine g_iconst (-1 : Int32) dX10_restOf_47 rfl ?_
    refine g_icmp_ne (tgt := 55) dX10_restOf_48 (by decide) (fun c_2 => ?_) (fun c_2 => ?_)
    · have h := h.1 c_2
      refine g_bipush (-2 : Int32) dX10_restOf_55 rfl ?_
      exact g_iret dX10_restOf_57 rfl rfl ⟨_, rfl, h⟩
    · have h := h.2 c_2
      refine g_iload_n dX10_restOf_51 rfl ?_
      refine g_goto (tgt := 57) dX10_restOf_52 (by decide) ?_
      exact g_iret dX10_restOf_57 rfl rfl ⟨_, rfl, h⟩
  · have h := h.2 c_1
    refine g_aload_n dX10_restOf_10 rfl ?_
    refine g_iload_n dX10_restOf_11 rfl ?_
    obtain ⟨d_3, q_4, hd_5, hc_6, h⟩ := h
    refine g_cV ca_X10_416 ob_10 hc_6 hd_5 (by decide) hr0 rfl rfl (by first | exact Nat.le_of_ble_eq_true rfl | decide) dX10_restOf_12 (kI (fun v_8 μ_7 hq_9 => ?_))
    have h := h v_8 μ_7 hq_9
    refine g_if_ne (tgt := 21) dX10_restOf_15 (by decide) (fun c_10 => ?_) (fun c_10 => ?_)
    · have h := h.1 c_10
      refine g_iload_n dX10_restOf_21 rfl ?_
      refine g_iload_n dX10_restOf_22 rfl ?_
      refine g_icmp_ne (tgt := 37) dX10_restOf_23 (by decide) (fun c_11 => ?_) (fun c_11 => ?_)
      · have h := h.1 c_11
        refine g_iinc dX10_restOf_37 rfl (by decide) (fun x2_12 ex2_12 => g_sub (lv' := [(0, .ref (D.2.2 10 r0)), (1, .int x1), (2, .int x2_12), (3, .int x3)]) [1, 2, 0, 3] rfl ?_)
        have h := h x2_12 ex2_12
        exact g_sub [0, 1, 2, 3] rfl h
      · have h := h.2 c_11
        refine g_bipush (10 : Int32) dX10_restOf_26 rfl ?_
        refine g_iload_n dX10_restOf_28 rfl ?_
        refine g_iconst (5 : Int32) dX10_restOf_29 rfl ?_
        refine g_idiv dX10_restOf_30 (by decide) ?_
        refine g_imul dX10_restOf_31 ?_
        refine g_iload_n dX10_restOf_32 rfl ?_
        refine g_iconst (5 : Int32) dX10_restOf_33 rfl ?_
        refine g_irem dX10_restOf_34 (by decide) ?_
        refine g_iadd dX10_restOf_35 ?_
        exact g_iret dX10_restOf_36 rfl rfl ⟨_, rfl, h⟩
    · have h := h.2 c_10
      refine g_goto (tgt := 40) dX10_restOf_18 (by decide) ?_
      exact g_sub [0, 1, 2, 3] rfl h
set_option maxRecDepth 20000 in
set_option maxHeartbeats 4000000 in
theorem bl_X10_restOf_2 {l : Launch} {D : gD} {d : Nat} {q : Int32 → gMem → Prop} {Γ : gC} {r0 : Nat} {x1 : Int32} {x2 : Int32} {x3 : Int32} {μ : gMem} (hr0 : r0 < 1) (h : ∀ x3_1 : Int32, x3_1 = x3 + (1 : Int32) → pt_X10_restOf_1 l D d q Γ r0 x1 x2 x3_1 μ) : pt_X10_restOf_2 l D d q Γ r0 x1 x2 x3 μ := by
  unfold pt_X10_restOf_2
  refine g_iinc dX10_restOf_40 rfl (by decide) (fun x3_1 ex3_1 => g_sub (lv' := [(0, .ref (D.2.2 10 r0)), (1, .int x1), (2, .int x2), (3, .int x3_1)]) [1, 2, 3, 0] rfl ?_)
  have h := h x3_1 ex3_1
  refine g_goto (tgt := 4) dX10_restOf_43 (by decide) ?_
  exact g_sub [0, 1, 2, 3] rfl h
theorem en_X10_restOf {l : Launch} {D : gD} {d : Nat} {q : Int32 → gMem → Prop} {r0 : Nat} {x1 : Int32} {μ : gMem} (h : ∀ Γ : gC, pt_X10_restOf_0 l D d q Γ r0 x1 μ) : Ctr l D d yX10_restOf cX10_restOf 4 (some .int) [.ref (D.2.2 10 r0), .int x1] μ (pI q) :=
  Ctr_of rfl (by decide) (Nat.le_of_ble_eq_true rfl) (fun Γ => g_sub [0, 1] rfl (h Γ))
def pt_X10_areTwo_0 (l : Launch) (D : gD) (d : Nat) (q : Int32 → gMem → Prop) (Γ : gC) (r0 : Nat) (x1 : Int32) (x2 : Int32) (μ : gMem) : Prop := G l D RX10 cX10_areTwo 3 (some .boolean) d (pI q) Γ 0 [(0, .ref (D.2.2 10 r0)), (1, .int x1), (2, .int x2)] [] μ
set_option maxRecDepth 20000 in
set_option maxHeartbeats 4000000 in
theorem bl_X10_areTwo_0 {l : Launch} {D : gD} {d : Nat} {q : Int32 → gMem → Prop} {Γ : gC} {r0 : Nat} {x1 : Int32} {x2 : Int32} {μ : gMem} (hr0 : r0 < 1) (h : (0 < d) ∧ ((((isn x1 (μ.1 707 r0 0)) = 0) → q (0 : Int32) μ) ∧ ((¬ (isn x1 (μ.1 707 r0 0)) = 0) → (0 < d) ∧ ((((isn x2 (μ.1 707 r0 0)) = 0) → q (0 : Int32) μ) ∧ ((¬ (isn x2 (μ.1 707 r0 0)) = 0) → ((x1 = x2) → q (0 : Int32) μ) ∧ ((¬ x1 = x2) → q (1 : Int32) μ)))))) : pt_X10_areTwo_0 l D d q Γ r0 x1 x2 μ := by
  unfold pt_X10_areTwo_0
  refine g_aload_n dX10_areTwo_0 rfl ?_
  refine g_iload_n dX10_areTwo_1 rfl ?_
  obtain ⟨hd_1, h⟩ := h
  refine g_cV ca_X10_394 ob_10 (c_X10_isMan (d := 0) (Nat.le_refl _) hr0 ) hd_1 (by decide) hr0 rfl rfl (by first | exact Nat.le_of_ble_eq_true rfl | decide) dX10_areTwo_2 (kI (fun v_2 μ_3 hq_4 => ?_))
  obtain ⟨ev_2, eμ_3⟩ := hq_4
  subst ev_2
  refine g_mem eμ_3 ?_
  refine g_if_eq (tgt := 25) dX10_areTwo_5 (by decide) (fun c_5 => ?_) (fun c_5 => ?_)
  · have h := h.1 c_5
    refine g_iconst (0 : Int32) dX10_areTwo_25 rfl ?_
    exact g_iret dX10_areTwo_26 rfl rfl ⟨_, rfl, h⟩
  · have h := h.2 c_5
    refine g_aload_n dX10_areTwo_8 rfl ?_
    refine g_iload_n dX10_areTwo_9 rfl ?_
    obtain ⟨hd_6, h⟩ := h
    refine g_cV ca_X10_394 ob_10 (c_X10_isMan (d := 0) (Nat.le_refl _) hr0 ) hd_6 (by decide) hr0 rfl rfl (by first | exact Nat.le_of_ble_eq_true rfl | decide) dX10_areTwo_10 (kI (fun v_7 μ_8 hq_9 => ?_))
    obtain ⟨ev_7, eμ_8⟩ := hq_9
    subst ev_7
    refine g_mem eμ_8 ?_
    refine g_if_eq (tgt := 25) dX10_areTwo_13 (by decide) (fun c_10 => ?_) (fun c_10 => ?_)
    · have h := h.1 c_10
      refine g_iconst (0 : Int32) dX10_areTwo_25 rfl ?_
      exact g_iret dX10_areTwo_26 rfl rfl ⟨_, rfl, h⟩
    · have h := h.2 c_10
      refine g_iload_n dX10_areTwo_16 rfl ?_
      refine g_iload_n dX10_areTwo_17 rfl ?_
      refine g_icmp_eq (tgt := 25) dX10_areTwo_18 (by decide) (fun c_11 => ?_) (fun c_11 => ?_)
      · have h := h.1 c_11
        refine g_iconst (0 : Int32) dX10_areTwo_25 rfl ?_
        exact g_iret dX10_areTwo_26 rfl rfl ⟨_, rfl, h⟩
      · have h := h.2 c_11
        refine g_iconst (1 : Int32) dX10_areTwo_21 rfl ?_
        refine g_goto (tgt := 26) dX10_areTwo_22 (by decide) ?_
        exact g_iret dX10_areTwo_26 rfl rfl ⟨_, rfl, h⟩
theorem en_X10_areTwo {l : Launch} {D : gD} {d : Nat} {q : Int32 → gMem → Prop} {r0 : Nat} {x1 : Int32} {x2 : Int32} {μ : gMem} (h : ∀ Γ : gC, pt_X10_areTwo_0 l D d q Γ r0 x1 x2 μ) : Ctr l D d yX10_areTwo cX10_areTwo 3 (some .boolean) [.ref (D.2.2 10 r0), .int x1, .int x2] μ (pI q) :=
  Ctr_of rfl (by decide) (Nat.le_of_ble_eq_true rfl) (fun Γ => g_sub [0, 1, 2] rfl (h Γ))
def pt_X10_rests_0 (l : Launch) (D : gD) (d : Nat) (q : Int32 → gMem → Prop) (Γ : gC) (r0 : Nat) (x1 : Int32) (x2 : Int32) (μ : gMem) : Prop := G l D RX10 cX10_rests 3 (some .int) d (pI q) Γ 0 [(0, .ref (D.2.2 10 r0)), (1, .int x1), (2, .int x2)] [] μ
set_option maxRecDepth 20000 in
set_option maxHeartbeats 4000000 in
theorem bl_X10_rests_0 {l : Launch} {D : gD} {d : Nat} {q : Int32 → gMem → Prop} {Γ : gC} {r0 : Nat} {x1 : Int32} {x2 : Int32} {μ : gMem} (hr0 : r0 < 1) (h : ∀ μ_1 : gMem, μ_1 = gsI μ 10 r0 0 (0 : Int32) → ∃ (d_2 : Nat) (q_3 : Int32 → gMem → Prop), d_2 < d ∧ Ctr l D d_2 yX10_areTwo cX10_areTwo 3 (some .boolean) [.ref (D.2.2 10 r0), .int x1, .int x2] μ_1 (pI q_3) ∧ ∀ (v_7 : Int32) (μ_6 : gMem), q_3 v_7 μ_6 → ((¬ v_7 = 0) → ∃ (d_10 : Nat) (q_11 : gMem → Prop), d_10 < d ∧ Ctr l D d_10 yX10_layFurther cX10_layFurther 5 none [.ref (D.2.2 10 r0), .int x1, .int x2] μ_6 (pV q_11) ∧ ∀ (μ_14 : gMem), q_11 μ_14 → ∃ (d_17 : Nat) (q_18 : Int32 → gMem → Prop), d_17 < d ∧ Ctr l D d_17 yX10_restOf cX10_restOf 4 (some .int) [.ref (D.2.2 10 r0), .int (-1 : Int32)] μ_14 (pI q_18) ∧ ∀ (v_22 : Int32) (μ_21 : gMem), q_18 v_22 μ_21 → q v_22 μ_21) ∧ ((v_7 = 0) → q (-1 : Int32) μ_6)) : pt_X10_rests_0 l D d q Γ r0 x1 x2 μ := by
  unfold pt_X10_rests_0
  refine g_aload_n dX10_rests_0 rfl ?_
  refine g_iconst (0 : Int32) dX10_rests_1 rfl ?_
  refine g_pfI fi_10_145 hr0 rfl rfl dX10_rests_2 ?_
  obtain ⟨μ_1, eμ_1⟩ : ∃ z : gMem, z = gsI μ 10 r0 0 (0 : Int32) := ⟨_, rfl⟩
  have h := h μ_1 eμ_1
  refine g_mem eμ_1.symm ?_
  refine g_aload_n dX10_rests_5 rfl ?_
  refine g_iload_n dX10_rests_6 rfl ?_
  refine g_iload_n dX10_rests_7 rfl ?_
  obtain ⟨d_2, q_3, hd_4, hc_5, h⟩ := h
  refine g_cV ca_X10_419 ob_10 hc_5 hd_4 (by decide) hr0 rfl rfl (by first | exact Nat.le_of_ble_eq_true rfl | decide) dX10_rests_8 (kI (fun v_7 μ_6 hq_8 => ?_))
  have h := h v_7 μ_6 hq_8
  refine g_if_ne (tgt := 16) dX10_rests_11 (by decide) (fun c_9 => ?_) (fun c_9 => ?_)
  · have h := h.1 c_9
    refine g_aload_n dX10_rests_16 rfl ?_
    refine g_iload_n dX10_rests_17 rfl ?_
    refine g_iload_n dX10_rests_18 rfl ?_
    obtain ⟨d_10, q_11, hd_12, hc_13, h⟩ := h
    refine g_cV ca_X10_422 ob_10 hc_13 hd_12 (by decide) hr0 rfl rfl (by first | exact Nat.le_of_ble_eq_true rfl | decide) dX10_rests_19 (kV (fun μ_14 hq_16 => ?_))
    have h := h μ_14 hq_16
    refine g_aload_n dX10_rests_22 rfl ?_
    refine g_iconst (-1 : Int32) dX10_rests_23 rfl ?_
    obtain ⟨d_17, q_18, hd_19, hc_20, h⟩ := h
    refine g_cV ca_X10_425 ob_10 hc_20 hd_19 (by decide) hr0 rfl rfl (by first | exact Nat.le_of_ble_eq_true rfl | decide) dX10_rests_24 (kI (fun v_22 μ_21 hq_23 => ?_))
    have h := h v_22 μ_21 hq_23
    exact g_iret dX10_rests_27 rfl rfl ⟨_, rfl, h⟩
  · have h := h.2 c_9
    refine g_iconst (-1 : Int32) dX10_rests_14 rfl ?_
    exact g_iret dX10_rests_15 rfl rfl ⟨_, rfl, h⟩
theorem en_X10_rests {l : Launch} {D : gD} {d : Nat} {q : Int32 → gMem → Prop} {r0 : Nat} {x1 : Int32} {x2 : Int32} {μ : gMem} (h : ∀ Γ : gC, pt_X10_rests_0 l D d q Γ r0 x1 x2 μ) : Ctr l D d yX10_rests cX10_rests 3 (some .int) [.ref (D.2.2 10 r0), .int x1, .int x2] μ (pI q) :=
  Ctr_of rfl (by decide) (Nat.le_of_ble_eq_true rfl) (fun Γ => g_sub [0, 1, 2] rfl (h Γ))
def pt_X10_rest_0 (l : Launch) (D : gD) (d : Nat) (q : Int32 → gMem → Prop) (Γ : gC) (r0 : Nat) (x1 : Int32) (x2 : Int32) (x3 : Int32) (μ : gMem) : Prop := G l D RX10 cX10_rest 4 (some .int) d (pI q) Γ 0 [(0, .ref (D.2.2 10 r0)), (1, .int x1), (2, .int x2), (3, .int x3)] [] μ
set_option maxRecDepth 20000 in
set_option maxHeartbeats 4000000 in
theorem bl_X10_rest_0 {l : Launch} {D : gD} {d : Nat} {q : Int32 → gMem → Prop} {Γ : gC} {r0 : Nat} {x1 : Int32} {x2 : Int32} {x3 : Int32} {μ : gMem} (hr0 : r0 < 1) (h : ∀ μ_1 : gMem, μ_1 = gsI μ 10 r0 0 (0 : Int32) → ∃ (d_2 : Nat) (q_3 : Int32 → gMem → Prop), d_2 < d ∧ Ctr l D d_2 yX10_areTwo cX10_areTwo 3 (some .boolean) [.ref (D.2.2 10 r0), .int x1, .int x2] μ_1 (pI q_3) ∧ ∀ (v_7 : Int32) (μ_6 : gMem), q_3 v_7 μ_6 → ((v_7 = 0) → q (-1 : Int32) μ_6) ∧ ((¬ v_7 = 0) → ((0 ≤ x3) → ∃ (d_11 : Nat) (q_12 : gMem → Prop), d_11 < d ∧ Ctr l D d_11 yX10_layFurther cX10_layFurther 5 none [.ref (D.2.2 10 r0), .int x1, .int x2] μ_6 (pV q_12) ∧ ∀ (μ_15 : gMem), q_12 μ_15 → ∃ (d_18 : Nat) (q_19 : Int32 → gMem → Prop), d_18 < d ∧ Ctr l D d_18 yX10_restOf cX10_restOf 4 (some .int) [.ref (D.2.2 10 r0), .int x3] μ_15 (pI q_19) ∧ ∀ (v_23 : Int32) (μ_22 : gMem), q_19 v_23 μ_22 → q v_23 μ_22) ∧ ((¬ 0 ≤ x3) → q (-1 : Int32) μ_6))) : pt_X10_rest_0 l D d q Γ r0 x1 x2 x3 μ := by
  unfold pt_X10_rest_0
  refine g_aload_n dX10_rest_0 rfl ?_
  refine g_iconst (0 : Int32) dX10_rest_1 rfl ?_
  refine g_pfI fi_10_145 hr0 rfl rfl dX10_rest_2 ?_
  obtain ⟨μ_1, eμ_1⟩ : ∃ z : gMem, z = gsI μ 10 r0 0 (0 : Int32) := ⟨_, rfl⟩
  have h := h μ_1 eμ_1
  refine g_mem eμ_1.symm ?_
  refine g_aload_n dX10_rest_5 rfl ?_
  refine g_iload_n dX10_rest_6 rfl ?_
  refine g_iload_n dX10_rest_7 rfl ?_
  obtain ⟨d_2, q_3, hd_4, hc_5, h⟩ := h
  refine g_cV ca_X10_419 ob_10 hc_5 hd_4 (by decide) hr0 rfl rfl (by first | exact Nat.le_of_ble_eq_true rfl | decide) dX10_rest_8 (kI (fun v_7 μ_6 hq_8 => ?_))
  have h := h v_7 μ_6 hq_8
  refine g_if_eq (tgt := 18) dX10_rest_11 (by decide) (fun c_9 => ?_) (fun c_9 => ?_)
  · have h := h.1 c_9
    refine g_iconst (-1 : Int32) dX10_rest_18 rfl ?_
    exact g_iret dX10_rest_19 rfl rfl ⟨_, rfl, h⟩
  · have h := h.2 c_9
    refine g_iload_n dX10_rest_14 rfl ?_
    refine g_if_ge (tgt := 20) dX10_rest_15 (by decide) (fun c_10 => ?_) (fun c_10 => ?_)
    · have h := h.1 c_10
      refine g_aload_n dX10_rest_20 rfl ?_
      refine g_iload_n dX10_rest_21 rfl ?_
      refine g_iload_n dX10_rest_22 rfl ?_
      obtain ⟨d_11, q_12, hd_13, hc_14, h⟩ := h
      refine g_cV ca_X10_422 ob_10 hc_14 hd_13 (by decide) hr0 rfl rfl (by first | exact Nat.le_of_ble_eq_true rfl | decide) dX10_rest_23 (kV (fun μ_15 hq_17 => ?_))
      have h := h μ_15 hq_17
      refine g_aload_n dX10_rest_26 rfl ?_
      refine g_iload_n dX10_rest_27 rfl ?_
      obtain ⟨d_18, q_19, hd_20, hc_21, h⟩ := h
      refine g_cV ca_X10_425 ob_10 hc_21 hd_20 (by decide) hr0 rfl rfl (by first | exact Nat.le_of_ble_eq_true rfl | decide) dX10_rest_28 (kI (fun v_23 μ_22 hq_24 => ?_))
      have h := h v_23 μ_22 hq_24
      exact g_iret dX10_rest_31 rfl rfl ⟨_, rfl, h⟩
    · have h := h.2 c_10
      refine g_iconst (-1 : Int32) dX10_rest_18 rfl ?_
      exact g_iret dX10_rest_19 rfl rfl ⟨_, rfl, h⟩
theorem en_X10_rest {l : Launch} {D : gD} {d : Nat} {q : Int32 → gMem → Prop} {r0 : Nat} {x1 : Int32} {x2 : Int32} {x3 : Int32} {μ : gMem} (h : ∀ Γ : gC, pt_X10_rest_0 l D d q Γ r0 x1 x2 x3 μ) : Ctr l D d yX10_rest cX10_rest 4 (some .int) [.ref (D.2.2 10 r0), .int x1, .int x2, .int x3] μ (pI q) :=
  Ctr_of rfl (by decide) (Nat.le_of_ble_eq_true rfl) (fun Γ => g_sub [0, 1, 2, 3] rfl (h Γ))
def pt_X10_common_0 (l : Launch) (D : gD) (d : Nat) (q : Int32 → gMem → Prop) (Γ : gC) (x0 : Int32) (x1 : Int32) (μ : gMem) : Prop := G l D RX10 cX10_common 5 (some .int) d (pI q) Γ 0 [(0, .int x0), (1, .int x1)] [] μ
def pt_X10_common_1 (l : Launch) (D : gD) (d : Nat) (q : Int32 → gMem → Prop) (Γ : gC) (x2 : Int32) (x3 : Int32) (μ : gMem) : Prop := G l D RX10 cX10_common 5 (some .int) d (pI q) Γ 4 [(2, .int x2), (3, .int x3)] [] μ
set_option maxRecDepth 20000 in
set_option maxHeartbeats 4000000 in
theorem bl_X10_common_0 {l : Launch} {D : gD} {d : Nat} {q : Int32 → gMem → Prop} {Γ : gC} {x0 : Int32} {x1 : Int32} {μ : gMem}  (h : ∀ x2_1 : Int32, x2_1 = x0 → ∀ x3_2 : Int32, x3_2 = x1 → pt_X10_common_1 l D d q Γ x2_1 x3_2 μ) : pt_X10_common_0 l D d q Γ x0 x1 μ := by
  unfold pt_X10_common_0
  refine g_iload_n dX10_common_0 rfl ?_
  refine g_istore_n dX10_common_1 (by decide) (fun x2_1 ex2_1 => g_sub (lv' := [(1, .int x1), (2, .int x2_1)]) [2, 0] rfl ?_)
  have h := h x2_1 ex2_1
  refine g_iload_n dX10_common_2 rfl ?_
  refine g_istore_n dX10_common_3 (by decide) (fun x3_2 ex3_2 => g_sub (lv' := [(2, .int x2_1), (3, .int x3_2)]) [2, 0] rfl ?_)
  have h := h x3_2 ex3_2
  exact g_sub [0, 1] rfl h
set_option maxRecDepth 20000 in
set_option maxHeartbeats 4000000 in
theorem bl_X10_common_1 {l : Launch} {D : gD} {d : Nat} {q : Int32 → gMem → Prop} {Γ : gC} {x2 : Int32} {x3 : Int32} {μ : gMem}  (h : ((x3 = 0) → q x2 μ) ∧ ((¬ x3 = 0) → (¬ x3 = 0) ∧ (∀ x4_3 : Int32, x4_3 = x2 - x2 / x3 * x3 → ∀ x2_4 : Int32, x2_4 = x3 → ∀ x3_5 : Int32, x3_5 = x4_3 → pt_X10_common_1 l D d q Γ x2_4 x3_5 μ))) : pt_X10_common_1 l D d q Γ x2 x3 μ := by
  unfold pt_X10_common_1
  refine g_iload_n dX10_common_4 rfl ?_
  refine g_if_eq (tgt := 21) dX10_common_5 (by decide) (fun c_1 => ?_) (fun c_1 => ?_)
  · have h := h.1 c_1
    refine g_iload_n dX10_common_21 rfl ?_
    exact g_iret dX10_common_22 rfl rfl ⟨_, rfl, h⟩
  · have h := h.2 c_1
    refine g_iload_n dX10_common_8 rfl ?_
    refine g_iload_n dX10_common_9 rfl ?_
    obtain ⟨nz_2, h⟩ := h
    refine g_irem dX10_common_10 nz_2 ?_
    refine g_istore dX10_common_11 (by decide) (fun x4_3 ex4_3 => g_sub (lv' := [(3, .int x3), (4, .int x4_3)]) [2, 0] rfl ?_)
    have h := h x4_3 ex4_3
    refine g_iload_n dX10_common_13 rfl ?_
    refine g_istore_n dX10_common_14 (by decide) (fun x2_4 ex2_4 => g_sub (lv' := [(2, .int x2_4), (4, .int x4_3)]) [0, 2] rfl ?_)
    have h := h x2_4 ex2_4
    refine g_iload dX10_common_15 rfl ?_
    refine g_istore_n dX10_common_17 (by decide) (fun x3_5 ex3_5 => g_sub (lv' := [(2, .int x2_4), (3, .int x3_5)]) [1, 0] rfl ?_)
    have h := h x3_5 ex3_5
    refine g_goto (tgt := 4) dX10_common_18 (by decide) ?_
    exact g_sub [0, 1] rfl h
theorem en_X10_common {l : Launch} {D : gD} {d : Nat} {q : Int32 → gMem → Prop} {x0 : Int32} {x1 : Int32} {μ : gMem} (h : ∀ Γ : gC, pt_X10_common_0 l D d q Γ x0 x1 μ) : Ctr l D d yX10_common cX10_common 5 (some .int) [.int x0, .int x1] μ (pI q) :=
  Ctr_of rfl (by decide) (Nat.le_of_ble_eq_true rfl) (fun Γ => g_sub [0, 1] rfl (h Γ))
def pt_X10_falseOnes_0 (l : Launch) (D : gD) (d : Nat) (q : Int32 → gMem → Prop) (Γ : gC) (r0 : Nat) (x1 : Int32) (x2 : Int32) (μ : gMem) : Prop := G l D RX10 cX10_falseOnes 7 (some .int) d (pI q) Γ 0 [(0, .ref (D.2.2 10 r0)), (1, .int x1), (2, .int x2)] [] μ
def pt_X10_falseOnes_1 (l : Launch) (D : gD) (d : Nat) (q : Int32 → gMem → Prop) (Γ : gC) (r0 : Nat) (x1 : Int32) (x2 : Int32) (x3 : Int32) (x4 : Int32) (x5 : Int32) (μ : gMem) : Prop := G l D RX10 cX10_falseOnes 7 (some .int) d (pI q) Γ 32 [(0, .ref (D.2.2 10 r0)), (1, .int x1), (2, .int x2), (3, .int x3), (4, .int x4), (5, .int x5)] [] μ
set_option maxRecDepth 20000 in
set_option maxHeartbeats 4000000 in
theorem bl_X10_falseOnes_0 {l : Launch} {D : gD} {d : Nat} {q : Int32 → gMem → Prop} {Γ : gC} {r0 : Nat} {x1 : Int32} {x2 : Int32} {μ : gMem} (hr0 : r0 < 1) (h : ∀ μ_1 : gMem, μ_1 = gsI μ 10 r0 0 (0 : Int32) → (0 < d) ∧ ((((isn x1 (μ_1.1 707 r0 0)) = 0) → q (-1 : Int32) μ_1) ∧ ((¬ (isn x1 (μ_1.1 707 r0 0)) = 0) → ((x2 < 0) → q (-1 : Int32) μ_1) ∧ ((¬ x2 < 0) → ((x2 ≤ (1 : Int32)) → ∀ x3_9 : Int32, x3_9 = (0 : Int32) → ∀ x4_10 : Int32, x4_10 = (0 : Int32) → ∀ x5_11 : Int32, x5_11 = (0 : Int32) → pt_X10_falseOnes_1 l D d q Γ r0 x1 x2 x3_9 x4_10 x5_11 μ_1) ∧ ((¬ x2 ≤ (1 : Int32)) → q (-1 : Int32) μ_1))))) : pt_X10_falseOnes_0 l D d q Γ r0 x1 x2 μ := by
  unfold pt_X10_falseOnes_0
  refine g_aload_n dX10_falseOnes_0 rfl ?_
  refine g_iconst (0 : Int32) dX10_falseOnes_1 rfl ?_
  refine g_pfI fi_10_145 hr0 rfl rfl dX10_falseOnes_2 ?_
  obtain ⟨μ_1, eμ_1⟩ : ∃ z : gMem, z = gsI μ 10 r0 0 (0 : Int32) := ⟨_, rfl⟩
  have h := h μ_1 eμ_1
  refine g_mem eμ_1.symm ?_
  refine g_aload_n dX10_falseOnes_5 rfl ?_
  refine g_iload_n dX10_falseOnes_6 rfl ?_
  obtain ⟨hd_2, h⟩ := h
  refine g_cV ca_X10_394 ob_10 (c_X10_isMan (d := 0) (Nat.le_refl _) hr0 ) hd_2 (by decide) hr0 rfl rfl (by first | exact Nat.le_of_ble_eq_true rfl | decide) dX10_falseOnes_7 (kI (fun v_3 μ_4 hq_5 => ?_))
  obtain ⟨ev_3, eμ_4⟩ := hq_5
  subst ev_3
  refine g_mem eμ_4 ?_
  refine g_if_eq (tgt := 22) dX10_falseOnes_10 (by decide) (fun c_6 => ?_) (fun c_6 => ?_)
  · have h := h.1 c_6
    refine g_iconst (-1 : Int32) dX10_falseOnes_22 rfl ?_
    exact g_iret dX10_falseOnes_23 rfl rfl ⟨_, rfl, h⟩
  · have h := h.2 c_6
    refine g_iload_n dX10_falseOnes_13 rfl ?_
    refine g_if_lt (tgt := 22) dX10_falseOnes_14 (by decide) (fun c_7 => ?_) (fun c_7 => ?_)
    · have h := h.1 c_7
      refine g_iconst (-1 : Int32) dX10_falseOnes_22 rfl ?_
      exact g_iret dX10_falseOnes_23 rfl rfl ⟨_, rfl, h⟩
    · have h := h.2 c_7
      refine g_iload_n dX10_falseOnes_17 rfl ?_
      refine g_iconst (1 : Int32) dX10_falseOnes_18 rfl ?_
      refine g_icmp_le (tgt := 24) dX10_falseOnes_19 (by decide) (fun c_8 => ?_) (fun c_8 => ?_)
      · have h := h.1 c_8
        refine g_iconst (0 : Int32) dX10_falseOnes_24 rfl ?_
        refine g_istore_n dX10_falseOnes_25 (by decide) (fun x3_9 ex3_9 => g_sub (lv' := [(0, .ref (D.2.2 10 r0)), (1, .int x1), (2, .int x2), (3, .int x3_9)]) [1, 2, 3, 0] rfl ?_)
        have h := h x3_9 ex3_9
        refine g_iconst (0 : Int32) dX10_falseOnes_26 rfl ?_
        refine g_istore dX10_falseOnes_27 (by decide) (fun x4_10 ex4_10 => g_sub (lv' := [(0, .ref (D.2.2 10 r0)), (1, .int x1), (2, .int x2), (3, .int x3_9), (4, .int x4_10)]) [1, 2, 3, 4, 0] rfl ?_)
        have h := h x4_10 ex4_10
        refine g_iconst (0 : Int32) dX10_falseOnes_29 rfl ?_
        refine g_istore dX10_falseOnes_30 (by decide) (fun x5_11 ex5_11 => g_sub (lv' := [(0, .ref (D.2.2 10 r0)), (1, .int x1), (2, .int x2), (3, .int x3_9), (4, .int x4_10), (5, .int x5_11)]) [1, 2, 3, 4, 5, 0] rfl ?_)
        have h := h x5_11 ex5_11
        exact g_sub [0, 1, 2, 3, 4, 5] rfl h
      · have h := h.2 c_8
        refine g_iconst (-1 : Int32) dX10_falseOnes_22 rfl ?_
        exact g_iret dX10_falseOnes_23 rfl rfl ⟨_, rfl, h⟩
set_option maxRecDepth 20000 in
set_option maxHeartbeats 4000000 in
theorem bl_X10_falseOnes_1 {l : Launch} {D : gD} {d : Nat} {q : Int32 → gMem → Prop} {Γ : gC} {r0 : Nat} {x1 : Int32} {x2 : Int32} {x3 : Int32} {x4 : Int32} {x5 : Int32} {μ : gMem} (hr0 : r0 < 1) (h : (((μ.1 707 r0 1) ≤ x5) → ((¬ x4 = 0) → ∃ (d_4 : Nat) (q_5 : Int32 → gMem → Prop), d_4 < d ∧ Ctr l D d_4 yX10_common cX10_common 5 (some .int) [.int x3, .int x4] μ (pI q_5) ∧ ∀ (v_9 : Int32) (μ_8 : gMem), q_5 v_9 μ_8 → ∀ x5_11 : Int32, x5_11 = v_9 → ((¬ x2 = 0) → (¬ x5_11 = 0) ∧ (q (x4 / x5_11) μ_8)) ∧ ((x2 = 0) → (¬ x5_11 = 0) ∧ (q (x3 / x5_11) μ_8))) ∧ ((x4 = 0) → q x2 μ)) ∧ ((¬ (μ.1 707 r0 1) ≤ x5) → ∃ j_15 : Nat, j_15 < 690 ∧ ((6 : Int32) * x1) + x5 = nI j_15 ∧ (∀ x6_16 : Int32, x6_16 = μ.1 751 r0 j_15 → ∃ j_17 : Nat, j_17 < 12 ∧ x5 = nI j_17 ∧ (∃ j_18 : Nat, j_18 < 12 ∧ x5 = nI j_18 ∧ ((0 < d) ∧ (∀ x3_20 : Int32, x3_20 = x3 + (x6_16 * (imax (0 : Int32) ((μ.1 714 r0 j_17) - (μ.1 713 r0 j_18)))) → ∃ j_21 : Nat, j_21 < 12 ∧ x5 = nI j_21 ∧ (∀ x4_22 : Int32, x4_22 = x4 + (x6_16 * (μ.1 714 r0 j_21)) → ∀ x5_23 : Int32, x5_23 = x5 + (1 : Int32) → pt_X10_falseOnes_1 l D d q Γ r0 x1 x2 x3_20 x4_22 x5_23 μ))))))) : pt_X10_falseOnes_1 l D d q Γ r0 x1 x2 x3 x4 x5 μ := by
  unfold pt_X10_falseOnes_1
  refine g_iload dX10_falseOnes_32 rfl ?_
  refine g_aload_n dX10_falseOnes_34 rfl ?_
  refine g_gfR fl_10_13 rfl hr0 dX10_falseOnes_35 ?_
  refine g_iconst (1 : Int32) dX10_falseOnes_38 rfl ?_
  refine g_iald 1 hr0 rfl (by decide) (by decide) rfl dX10_falseOnes_39 ?_
  refine g_icmp_ge (tgt := 103) dX10_falseOnes_40 (by decide) (fun c_2 => ?_) (fun c_2 => ?_)
  · have h := h.1 c_2
    refine g_iload dX10_falseOnes_103 rfl ?_
    refine g_if_ne (tgt := 110) dX10_falseOnes_105 (by decide) (fun c_3 => ?_) (fun c_3 => ?_)
    · have h := h.1 c_3
      refine g_iload_n dX10_falseOnes_110 rfl ?_
      refine g_iload dX10_falseOnes_111 rfl ?_
      obtain ⟨d_4, q_5, hd_6, hc_7, h⟩ := h
      refine g_callS ca_X10_428 hc_7 hd_6 (by decide) rfl rfl (by first | exact Nat.le_of_ble_eq_true rfl | decide) dX10_falseOnes_113 (kI (fun v_9 μ_8 hq_10 => ?_))
      have h := h v_9 μ_8 hq_10
      refine g_istore dX10_falseOnes_116 (by decide) (fun x5_11 ex5_11 => g_sub (lv' := [(2, .int x2), (3, .int x3), (4, .int x4), (5, .int x5_11)]) [3, 4, 5, 0] rfl ?_)
      have h := h x5_11 ex5_11
      refine g_iload_n dX10_falseOnes_118 rfl ?_
      refine g_if_ne (tgt := 129) dX10_falseOnes_119 (by decide) (fun c_12 => ?_) (fun c_12 => ?_)
      · have h := h.1 c_12
        refine g_iload dX10_falseOnes_129 rfl ?_
        refine g_iload dX10_falseOnes_131 rfl ?_
        obtain ⟨nz_13, h⟩ := h
        refine g_idiv dX10_falseOnes_133 nz_13 ?_
        exact g_iret dX10_falseOnes_134 rfl rfl ⟨_, rfl, h⟩
      · have h := h.2 c_12
        refine g_iload_n dX10_falseOnes_122 rfl ?_
        refine g_iload dX10_falseOnes_123 rfl ?_
        obtain ⟨nz_14, h⟩ := h
        refine g_idiv dX10_falseOnes_125 nz_14 ?_
        refine g_goto (tgt := 134) dX10_falseOnes_126 (by decide) ?_
        exact g_iret dX10_falseOnes_134 rfl rfl ⟨_, rfl, h⟩
    · have h := h.2 c_3
      refine g_iload_n dX10_falseOnes_108 rfl ?_
      exact g_iret dX10_falseOnes_109 rfl rfl ⟨_, rfl, h⟩
  · have h := h.2 c_2
    refine g_aload_n dX10_falseOnes_43 rfl ?_
    refine g_gfR fl_10_108 rfl hr0 dX10_falseOnes_44 ?_
    refine g_bipush (6 : Int32) dX10_falseOnes_47 rfl ?_
    refine g_iload_n dX10_falseOnes_49 rfl ?_
    refine g_imul dX10_falseOnes_50 ?_
    refine g_iload dX10_falseOnes_51 rfl ?_
    refine g_iadd dX10_falseOnes_53 ?_
    obtain ⟨j_15, hj_15, ej_15, h⟩ := h
    refine g_iald j_15 hr0 rfl hj_15 (by decide) ej_15 dX10_falseOnes_54 ?_
    refine g_istore dX10_falseOnes_55 (by decide) (fun x6_16 ex6_16 => g_sub (lv' := [(0, .ref (D.2.2 10 r0)), (1, .int x1), (2, .int x2), (3, .int x3), (4, .int x4), (5, .int x5), (6, .int x6_16)]) [1, 2, 3, 4, 5, 6, 0] rfl ?_)
    have h := h x6_16 ex6_16
    refine g_iload_n dX10_falseOnes_57 rfl ?_
    refine g_iload dX10_falseOnes_58 rfl ?_
    refine g_iconst (0 : Int32) dX10_falseOnes_60 rfl ?_
    refine g_aload_n dX10_falseOnes_61 rfl ?_
    refine g_gfR fl_10_34 rfl hr0 dX10_falseOnes_62 ?_
    refine g_iload dX10_falseOnes_65 rfl ?_
    obtain ⟨j_17, hj_17, ej_17, h⟩ := h
    refine g_iald j_17 hr0 rfl hj_17 (by decide) ej_17 dX10_falseOnes_67 ?_
    refine g_aload_n dX10_falseOnes_68 rfl ?_
    refine g_gfR fl_10_31 rfl hr0 dX10_falseOnes_69 ?_
    refine g_iload dX10_falseOnes_72 rfl ?_
    obtain ⟨j_18, hj_18, ej_18, h⟩ := h
    refine g_iald j_18 hr0 rfl hj_18 (by decide) ej_18 dX10_falseOnes_74 ?_
    refine g_isub dX10_falseOnes_75 ?_
    obtain ⟨hd_19, h⟩ := h
    refine g_mmax hd_19 mk_X10_337 (by first | exact Nat.le_of_ble_eq_true rfl | decide) dX10_falseOnes_76 ?_
    refine g_imul dX10_falseOnes_79 ?_
    refine g_iadd dX10_falseOnes_80 ?_
    refine g_istore_n dX10_falseOnes_81 (by decide) (fun x3_20 ex3_20 => g_sub (lv' := [(0, .ref (D.2.2 10 r0)), (1, .int x1), (2, .int x2), (3, .int x3_20), (4, .int x4), (5, .int x5), (6, .int x6_16)]) [1, 2, 3, 0, 4, 5, 6] rfl ?_)
    have h := h x3_20 ex3_20
    refine g_iload dX10_falseOnes_82 rfl ?_
    refine g_iload dX10_falseOnes_84 rfl ?_
    refine g_aload_n dX10_falseOnes_86 rfl ?_
    refine g_gfR fl_10_34 rfl hr0 dX10_falseOnes_87 ?_
    refine g_iload dX10_falseOnes_90 rfl ?_
    obtain ⟨j_21, hj_21, ej_21, h⟩ := h
    refine g_iald j_21 hr0 rfl hj_21 (by decide) ej_21 dX10_falseOnes_92 ?_
    refine g_imul dX10_falseOnes_93 ?_
    refine g_iadd dX10_falseOnes_94 ?_
    refine g_istore dX10_falseOnes_95 (by decide) (fun x4_22 ex4_22 => g_sub (lv' := [(0, .ref (D.2.2 10 r0)), (1, .int x1), (2, .int x2), (3, .int x3_20), (4, .int x4_22), (5, .int x5)]) [1, 2, 3, 4, 0, 5] rfl ?_)
    have h := h x4_22 ex4_22
    refine g_iinc dX10_falseOnes_97 rfl (by decide) (fun x5_23 ex5_23 => g_sub (lv' := [(0, .ref (D.2.2 10 r0)), (1, .int x1), (2, .int x2), (3, .int x3_20), (4, .int x4_22), (5, .int x5_23)]) [1, 2, 3, 4, 5, 0] rfl ?_)
    have h := h x5_23 ex5_23
    refine g_goto (tgt := 32) dX10_falseOnes_100 (by decide) ?_
    exact g_sub [0, 1, 2, 3, 4, 5] rfl h
theorem en_X10_falseOnes {l : Launch} {D : gD} {d : Nat} {q : Int32 → gMem → Prop} {r0 : Nat} {x1 : Int32} {x2 : Int32} {μ : gMem} (h : ∀ Γ : gC, pt_X10_falseOnes_0 l D d q Γ r0 x1 x2 μ) : Ctr l D d yX10_falseOnes cX10_falseOnes 7 (some .int) [.ref (D.2.2 10 r0), .int x1, .int x2] μ (pI q) :=
  Ctr_of rfl (by decide) (Nat.le_of_ble_eq_true rfl) (fun Γ => g_sub [0, 1, 2] rfl (h Γ))
def pt_X10_habit_0 (l : Launch) (D : gD) (d : Nat) (q : Int32 → gMem → Prop) (Γ : gC) (r0 : Nat) (x1 : Int32) (μ : gMem) : Prop := G l D RX10 cX10_habit 3 (some .int) d (pI q) Γ 0 [(0, .ref (D.2.2 10 r0)), (1, .int x1)] [] μ
def pt_X10_habit_1 (l : Launch) (D : gD) (d : Nat) (q : Int32 → gMem → Prop) (Γ : gC) (r0 : Nat) (x1 : Int32) (x2 : Int32) (μ : gMem) : Prop := G l D RX10 cX10_habit 3 (some .int) d (pI q) Γ 23 [(0, .ref (D.2.2 10 r0)), (1, .int x1), (2, .int x2)] [] μ
set_option maxRecDepth 20000 in
set_option maxHeartbeats 4000000 in
theorem bl_X10_habit_0 {l : Launch} {D : gD} {d : Nat} {q : Int32 → gMem → Prop} {Γ : gC} {r0 : Nat} {x1 : Int32} {μ : gMem} (hr0 : r0 < 1) (h : ∀ μ_1 : gMem, μ_1 = gsI μ 10 r0 0 (0 : Int32) → (0 < d) ∧ (((¬ (isn x1 (μ_1.1 707 r0 0)) = 0) → ∃ (d_7 : Nat) (q_8 : gMem → Prop), d_7 < d ∧ Ctr l D d_7 yX10_copies cX10_copies 6 none [.ref (D.2.2 10 r0), .int (1 : Int32), .int (0 : Int32)] μ_1 (pV q_8) ∧ ∀ (μ_11 : gMem), q_8 μ_11 → ∀ x2_14 : Int32, x2_14 = (0 : Int32) → pt_X10_habit_1 l D d q Γ r0 x1 x2_14 μ_11) ∧ (((isn x1 (μ_1.1 707 r0 0)) = 0) → q (-1 : Int32) μ_1))) : pt_X10_habit_0 l D d q Γ r0 x1 μ := by
  unfold pt_X10_habit_0
  refine g_aload_n dX10_habit_0 rfl ?_
  refine g_iconst (0 : Int32) dX10_habit_1 rfl ?_
  refine g_pfI fi_10_145 hr0 rfl rfl dX10_habit_2 ?_
  obtain ⟨μ_1, eμ_1⟩ : ∃ z : gMem, z = gsI μ 10 r0 0 (0 : Int32) := ⟨_, rfl⟩
  have h := h μ_1 eμ_1
  refine g_mem eμ_1.symm ?_
  refine g_aload_n dX10_habit_5 rfl ?_
  refine g_iload_n dX10_habit_6 rfl ?_
  obtain ⟨hd_2, h⟩ := h
  refine g_cV ca_X10_394 ob_10 (c_X10_isMan (d := 0) (Nat.le_refl _) hr0 ) hd_2 (by decide) hr0 rfl rfl (by first | exact Nat.le_of_ble_eq_true rfl | decide) dX10_habit_7 (kI (fun v_3 μ_4 hq_5 => ?_))
  obtain ⟨ev_3, eμ_4⟩ := hq_5
  subst ev_3
  refine g_mem eμ_4 ?_
  refine g_if_ne (tgt := 15) dX10_habit_10 (by decide) (fun c_6 => ?_) (fun c_6 => ?_)
  · have h := h.1 c_6
    refine g_aload_n dX10_habit_15 rfl ?_
    refine g_iconst (1 : Int32) dX10_habit_16 rfl ?_
    refine g_iconst (0 : Int32) dX10_habit_17 rfl ?_
    obtain ⟨d_7, q_8, hd_9, hc_10, h⟩ := h
    refine g_cV ca_X10_387 ob_10 hc_10 hd_9 (by decide) hr0 rfl rfl (by first | exact Nat.le_of_ble_eq_true rfl | decide) dX10_habit_18 (kV (fun μ_11 hq_13 => ?_))
    have h := h μ_11 hq_13
    refine g_iconst (0 : Int32) dX10_habit_21 rfl ?_
    refine g_istore_n dX10_habit_22 (by decide) (fun x2_14 ex2_14 => g_sub (lv' := [(0, .ref (D.2.2 10 r0)), (1, .int x1), (2, .int x2_14)]) [1, 2, 0] rfl ?_)
    have h := h x2_14 ex2_14
    exact g_sub [0, 1, 2] rfl h
  · have h := h.2 c_6
    refine g_iconst (-1 : Int32) dX10_habit_13 rfl ?_
    exact g_iret dX10_habit_14 rfl rfl ⟨_, rfl, h⟩
set_option maxRecDepth 20000 in
set_option maxHeartbeats 4000000 in
theorem bl_X10_habit_1 {l : Launch} {D : gD} {d : Nat} {q : Int32 → gMem → Prop} {Γ : gC} {r0 : Nat} {x1 : Int32} {x2 : Int32} {μ : gMem} (hr0 : r0 < 1) (h : (((99 : Int32) < x2) → q (-2 : Int32) μ) ∧ ((¬ (99 : Int32) < x2) → ∃ j_2 : Nat, j_2 < 115 ∧ (5 : Int32) + x1 = nI j_2 ∧ (∃ j_3 : Nat, j_3 < 115 ∧ x1 = nI j_3 ∧ ((((μ.1 741 r0 j_2) < (μ.1 740 r0 j_3)) → ∃ (d_5 : Nat) (q_6 : gMem → Prop), d_5 < d ∧ Ctr l D d_5 yX10_passes cX10_passes 6 none [.ref (D.2.2 10 r0), .int (1 : Int32), .int (0 : Int32)] μ (pV q_6) ∧ ∀ (μ_9 : gMem), q_6 μ_9 → ∀ x2_12 : Int32, x2_12 = x2 + (1 : Int32) → pt_X10_habit_1 l D d q Γ r0 x1 x2_12 μ_9) ∧ ((¬ (μ.1 741 r0 j_2) < (μ.1 740 r0 j_3)) → q x2 μ))))) : pt_X10_habit_1 l D d q Γ r0 x1 x2 μ := by
  unfold pt_X10_habit_1
  refine g_iload_n dX10_habit_23 rfl ?_
  refine g_bipush (99 : Int32) dX10_habit_24 rfl ?_
  refine g_icmp_gt (tgt := 60) dX10_habit_26 (by decide) (fun c_1 => ?_) (fun c_1 => ?_)
  · have h := h.1 c_1
    refine g_bipush (-2 : Int32) dX10_habit_60 rfl ?_
    exact g_iret dX10_habit_62 rfl rfl ⟨_, rfl, h⟩
  · have h := h.2 c_1
    refine g_aload_n dX10_habit_29 rfl ?_
    refine g_gfR fl_10_78 rfl hr0 dX10_habit_30 ?_
    refine g_iconst (5 : Int32) dX10_habit_33 rfl ?_
    refine g_iload_n dX10_habit_34 rfl ?_
    refine g_iadd dX10_habit_35 ?_
    obtain ⟨j_2, hj_2, ej_2, h⟩ := h
    refine g_iald j_2 hr0 rfl hj_2 (by decide) ej_2 dX10_habit_36 ?_
    refine g_aload_n dX10_habit_37 rfl ?_
    refine g_gfR fl_10_75 rfl hr0 dX10_habit_38 ?_
    refine g_iload_n dX10_habit_41 rfl ?_
    obtain ⟨j_3, hj_3, ej_3, h⟩ := h
    refine g_iald j_3 hr0 rfl hj_3 (by decide) ej_3 dX10_habit_42 ?_
    refine g_icmp_lt (tgt := 48) dX10_habit_43 (by decide) (fun c_4 => ?_) (fun c_4 => ?_)
    · have h := h.1 c_4
      refine g_aload_n dX10_habit_48 rfl ?_
      refine g_iconst (1 : Int32) dX10_habit_49 rfl ?_
      refine g_iconst (0 : Int32) dX10_habit_50 rfl ?_
      obtain ⟨d_5, q_6, hd_7, hc_8, h⟩ := h
      refine g_cV ca_X10_390 ob_10 hc_8 hd_7 (by decide) hr0 rfl rfl (by first | exact Nat.le_of_ble_eq_true rfl | decide) dX10_habit_51 (kV (fun μ_9 hq_11 => ?_))
      have h := h μ_9 hq_11
      refine g_iinc dX10_habit_54 rfl (by decide) (fun x2_12 ex2_12 => g_sub (lv' := [(0, .ref (D.2.2 10 r0)), (1, .int x1), (2, .int x2_12)]) [1, 2, 0] rfl ?_)
      have h := h x2_12 ex2_12
      refine g_goto (tgt := 23) dX10_habit_57 (by decide) ?_
      exact g_sub [0, 1, 2] rfl h
    · have h := h.2 c_4
      refine g_iload_n dX10_habit_46 rfl ?_
      exact g_iret dX10_habit_47 rfl rfl ⟨_, rfl, h⟩
theorem en_X10_habit {l : Launch} {D : gD} {d : Nat} {q : Int32 → gMem → Prop} {r0 : Nat} {x1 : Int32} {μ : gMem} (h : ∀ Γ : gC, pt_X10_habit_0 l D d q Γ r0 x1 μ) : Ctr l D d yX10_habit cX10_habit 3 (some .int) [.ref (D.2.2 10 r0), .int x1] μ (pI q) :=
  Ctr_of rfl (by decide) (Nat.le_of_ble_eq_true rfl) (fun Γ => g_sub [0, 1] rfl (h Γ))
def pt_X10_breaks_0 (l : Launch) (D : gD) (d : Nat) (q : Int32 → gMem → Prop) (Γ : gC) (r0 : Nat) (x1 : Int32) (x2 : Int32) (μ : gMem) : Prop := G l D RX10 cX10_breaks 5 (some .int) d (pI q) Γ 0 [(0, .ref (D.2.2 10 r0)), (1, .int x1), (2, .int x2)] [] μ
def pt_X10_breaks_1 (l : Launch) (D : gD) (d : Nat) (q : Int32 → gMem → Prop) (Γ : gC) (r0 : Nat) (x1 : Int32) (x2 : Int32) (x3 : Int32) (x4 : Int32) (μ : gMem) : Prop := G l D RX10 cX10_breaks 5 (some .int) d (pI q) Γ 78 [(0, .ref (D.2.2 10 r0)), (1, .int x1), (2, .int x2), (3, .int x3), (4, .int x4)] [] μ
set_option maxRecDepth 20000 in
set_option maxHeartbeats 4000000 in
theorem bl_X10_breaks_0 {l : Launch} {D : gD} {d : Nat} {q : Int32 → gMem → Prop} {Γ : gC} {r0 : Nat} {x1 : Int32} {x2 : Int32} {μ : gMem} (hr0 : r0 < 1) (h : ∀ μ_1 : gMem, μ_1 = gsI μ 10 r0 0 (0 : Int32) → (0 < d) ∧ ((((isn x1 (μ_1.1 707 r0 0)) = 0) → q (-1 : Int32) μ_1) ∧ ((¬ (isn x1 (μ_1.1 707 r0 0)) = 0) → ((x2 < (1 : Int32)) → q (-1 : Int32) μ_1) ∧ ((¬ x2 < (1 : Int32)) → ((x2 ≤ (60 : Int32)) → ∃ (d_9 : Nat) (q_10 : gMem → Prop), d_9 < d ∧ Ctr l D d_9 yX10_runs cX10_runs 3 none [.ref (D.2.2 10 r0), .int x2] μ_1 (pV q_10) ∧ ∀ (μ_13 : gMem), q_10 μ_13 → ∃ j_16 : Nat, j_16 < 115 ∧ (5 : Int32) + x1 = nI j_16 ∧ (∀ x3_17 : Int32, x3_17 = μ_13.1 745 r0 j_16 → ∃ (d_18 : Nat) (q_19 : gMem → Prop), d_18 < d ∧ Ctr l D d_18 yX10_copies cX10_copies 6 none [.ref (D.2.2 10 r0), .int (1 : Int32), .int (0 : Int32)] μ_13 (pV q_19) ∧ ∀ (μ_22 : gMem), q_19 μ_22 → ∃ j_25 : Nat, j_25 < 115 ∧ (5 : Int32) + x1 = nI j_25 ∧ (∀ μ_26 : gMem, μ_26 = gsI μ_22 747 r0 j_25 (0 : Int32) → ∃ (d_27 : Nat) (q_28 : gMem → Prop), d_27 < d ∧ Ctr l D d_27 yX10_passes cX10_passes 6 none [.ref (D.2.2 10 r0), .int (1 : Int32), .int (0 : Int32)] μ_26 (pV q_28) ∧ ∀ (μ_31 : gMem), q_28 μ_31 → ∃ j_34 : Nat, j_34 < 115 ∧ x1 = nI j_34 ∧ (∃ j_35 : Nat, j_35 < 115 ∧ (5 : Int32) + x1 = nI j_35 ∧ (∀ μ_36 : gMem, μ_36 = gsI μ_31 747 r0 j_35 (μ_31.1 747 r0 j_34) → ∀ x4_37 : Int32, x4_37 = (1 : Int32) → pt_X10_breaks_1 l D d q Γ r0 x1 x2 x3_17 x4_37 μ_36))))) ∧ ((¬ x2 ≤ (60 : Int32)) → q (-1 : Int32) μ_1))))) : pt_X10_breaks_0 l D d q Γ r0 x1 x2 μ := by
  unfold pt_X10_breaks_0
  refine g_aload_n dX10_breaks_0 rfl ?_
  refine g_iconst (0 : Int32) dX10_breaks_1 rfl ?_
  refine g_pfI fi_10_145 hr0 rfl rfl dX10_breaks_2 ?_
  obtain ⟨μ_1, eμ_1⟩ : ∃ z : gMem, z = gsI μ 10 r0 0 (0 : Int32) := ⟨_, rfl⟩
  have h := h μ_1 eμ_1
  refine g_mem eμ_1.symm ?_
  refine g_aload_n dX10_breaks_5 rfl ?_
  refine g_iload_n dX10_breaks_6 rfl ?_
  obtain ⟨hd_2, h⟩ := h
  refine g_cV ca_X10_394 ob_10 (c_X10_isMan (d := 0) (Nat.le_refl _) hr0 ) hd_2 (by decide) hr0 rfl rfl (by first | exact Nat.le_of_ble_eq_true rfl | decide) dX10_breaks_7 (kI (fun v_3 μ_4 hq_5 => ?_))
  obtain ⟨ev_3, eμ_4⟩ := hq_5
  subst ev_3
  refine g_mem eμ_4 ?_
  refine g_if_eq (tgt := 24) dX10_breaks_10 (by decide) (fun c_6 => ?_) (fun c_6 => ?_)
  · have h := h.1 c_6
    refine g_iconst (-1 : Int32) dX10_breaks_24 rfl ?_
    exact g_iret dX10_breaks_25 rfl rfl ⟨_, rfl, h⟩
  · have h := h.2 c_6
    refine g_iload_n dX10_breaks_13 rfl ?_
    refine g_iconst (1 : Int32) dX10_breaks_14 rfl ?_
    refine g_icmp_lt (tgt := 24) dX10_breaks_15 (by decide) (fun c_7 => ?_) (fun c_7 => ?_)
    · have h := h.1 c_7
      refine g_iconst (-1 : Int32) dX10_breaks_24 rfl ?_
      exact g_iret dX10_breaks_25 rfl rfl ⟨_, rfl, h⟩
    · have h := h.2 c_7
      refine g_iload_n dX10_breaks_18 rfl ?_
      refine g_bipush (60 : Int32) dX10_breaks_19 rfl ?_
      refine g_icmp_le (tgt := 26) dX10_breaks_21 (by decide) (fun c_8 => ?_) (fun c_8 => ?_)
      · have h := h.1 c_8
        refine g_aload_n dX10_breaks_26 rfl ?_
        refine g_iload_n dX10_breaks_27 rfl ?_
        obtain ⟨d_9, q_10, hd_11, hc_12, h⟩ := h
        refine g_cV ca_X10_407 ob_10 hc_12 hd_11 (by decide) hr0 rfl rfl (by first | exact Nat.le_of_ble_eq_true rfl | decide) dX10_breaks_28 (kV (fun μ_13 hq_15 => ?_))
        have h := h μ_13 hq_15
        refine g_aload_n dX10_breaks_31 rfl ?_
        refine g_gfR fl_10_90 rfl hr0 dX10_breaks_32 ?_
        refine g_iconst (5 : Int32) dX10_breaks_35 rfl ?_
        refine g_iload_n dX10_breaks_36 rfl ?_
        refine g_iadd dX10_breaks_37 ?_
        obtain ⟨j_16, hj_16, ej_16, h⟩ := h
        refine g_iald j_16 hr0 rfl hj_16 (by decide) ej_16 dX10_breaks_38 ?_
        refine g_istore_n dX10_breaks_39 (by decide) (fun x3_17 ex3_17 => g_sub (lv' := [(0, .ref (D.2.2 10 r0)), (1, .int x1), (2, .int x2), (3, .int x3_17)]) [1, 2, 3, 0] rfl ?_)
        have h := h x3_17 ex3_17
        refine g_aload_n dX10_breaks_40 rfl ?_
        refine g_iconst (1 : Int32) dX10_breaks_41 rfl ?_
        refine g_iconst (0 : Int32) dX10_breaks_42 rfl ?_
        obtain ⟨d_18, q_19, hd_20, hc_21, h⟩ := h
        refine g_cV ca_X10_387 ob_10 hc_21 hd_20 (by decide) hr0 rfl rfl (by first | exact Nat.le_of_ble_eq_true rfl | decide) dX10_breaks_43 (kV (fun μ_22 hq_24 => ?_))
        have h := h μ_22 hq_24
        refine g_aload_n dX10_breaks_46 rfl ?_
        refine g_gfR fl_10_96 rfl hr0 dX10_breaks_47 ?_
        refine g_iconst (5 : Int32) dX10_breaks_50 rfl ?_
        refine g_iload_n dX10_breaks_51 rfl ?_
        refine g_iadd dX10_breaks_52 ?_
        refine g_iconst (0 : Int32) dX10_breaks_53 rfl ?_
        obtain ⟨j_25, hj_25, ej_25, h⟩ := h
        refine g_iast j_25 hr0 rfl hj_25 (by decide) ej_25 dX10_breaks_54 ?_
        obtain ⟨μ_26, eμ_26⟩ : ∃ z : gMem, z = gsI μ_22 747 r0 j_25 (0 : Int32) := ⟨_, rfl⟩
        have h := h μ_26 eμ_26
        refine g_mem eμ_26.symm ?_
        refine g_aload_n dX10_breaks_55 rfl ?_
        refine g_iconst (1 : Int32) dX10_breaks_56 rfl ?_
        refine g_iconst (0 : Int32) dX10_breaks_57 rfl ?_
        obtain ⟨d_27, q_28, hd_29, hc_30, h⟩ := h
        refine g_cV ca_X10_390 ob_10 hc_30 hd_29 (by decide) hr0 rfl rfl (by first | exact Nat.le_of_ble_eq_true rfl | decide) dX10_breaks_58 (kV (fun μ_31 hq_33 => ?_))
        have h := h μ_31 hq_33
        refine g_aload_n dX10_breaks_61 rfl ?_
        refine g_gfR fl_10_96 rfl hr0 dX10_breaks_62 ?_
        refine g_iconst (5 : Int32) dX10_breaks_65 rfl ?_
        refine g_iload_n dX10_breaks_66 rfl ?_
        refine g_iadd dX10_breaks_67 ?_
        refine g_aload_n dX10_breaks_68 rfl ?_
        refine g_gfR fl_10_96 rfl hr0 dX10_breaks_69 ?_
        refine g_iload_n dX10_breaks_72 rfl ?_
        obtain ⟨j_34, hj_34, ej_34, h⟩ := h
        refine g_iald j_34 hr0 rfl hj_34 (by decide) ej_34 dX10_breaks_73 ?_
        obtain ⟨j_35, hj_35, ej_35, h⟩ := h
        refine g_iast j_35 hr0 rfl hj_35 (by decide) ej_35 dX10_breaks_74 ?_
        obtain ⟨μ_36, eμ_36⟩ : ∃ z : gMem, z = gsI μ_31 747 r0 j_35 (μ_31.1 747 r0 j_34) := ⟨_, rfl⟩
        have h := h μ_36 eμ_36
        refine g_mem eμ_36.symm ?_
        refine g_iconst (1 : Int32) dX10_breaks_75 rfl ?_
        refine g_istore dX10_breaks_76 (by decide) (fun x4_37 ex4_37 => g_sub (lv' := [(0, .ref (D.2.2 10 r0)), (1, .int x1), (2, .int x2), (3, .int x3_17), (4, .int x4_37)]) [1, 2, 3, 4, 0] rfl ?_)
        have h := h x4_37 ex4_37
        exact g_sub [0, 1, 2, 3, 4] rfl h
      · have h := h.2 c_8
        refine g_iconst (-1 : Int32) dX10_breaks_24 rfl ?_
        exact g_iret dX10_breaks_25 rfl rfl ⟨_, rfl, h⟩
set_option maxRecDepth 20000 in
set_option maxHeartbeats 4000000 in
theorem bl_X10_breaks_1 {l : Launch} {D : gD} {d : Nat} {q : Int32 → gMem → Prop} {Γ : gC} {r0 : Nat} {x1 : Int32} {x2 : Int32} {x3 : Int32} {x4 : Int32} {μ : gMem} (hr0 : r0 < 1) (h : ((x2 ≤ x4) → ∃ j_2 : Nat, j_2 < 115 ∧ (5 : Int32) + x1 = nI j_2 ∧ ((0 < d) ∧ (q (imax (0 : Int32) (x3 - (μ.1 745 r0 j_2))) μ))) ∧ ((¬ x2 ≤ x4) → ∃ (d_4 : Nat) (q_5 : gMem → Prop), d_4 < d ∧ Ctr l D d_4 yX10_passes cX10_passes 6 none [.ref (D.2.2 10 r0), .int (1 : Int32), .int (0 : Int32)] μ (pV q_5) ∧ ∀ (μ_8 : gMem), q_5 μ_8 → ∀ x4_11 : Int32, x4_11 = x4 + (1 : Int32) → pt_X10_breaks_1 l D d q Γ r0 x1 x2 x3 x4_11 μ_8)) : pt_X10_breaks_1 l D d q Γ r0 x1 x2 x3 x4 μ := by
  unfold pt_X10_breaks_1
  refine g_iload dX10_breaks_78 rfl ?_
  refine g_iload_n dX10_breaks_80 rfl ?_
  refine g_icmp_ge (tgt := 96) dX10_breaks_81 (by decide) (fun c_1 => ?_) (fun c_1 => ?_)
  · have h := h.1 c_1
    refine g_iconst (0 : Int32) dX10_breaks_96 rfl ?_
    refine g_iload_n dX10_breaks_97 rfl ?_
    refine g_aload_n dX10_breaks_98 rfl ?_
    refine g_gfR fl_10_90 rfl hr0 dX10_breaks_99 ?_
    refine g_iconst (5 : Int32) dX10_breaks_102 rfl ?_
    refine g_iload_n dX10_breaks_103 rfl ?_
    refine g_iadd dX10_breaks_104 ?_
    obtain ⟨j_2, hj_2, ej_2, h⟩ := h
    refine g_iald j_2 hr0 rfl hj_2 (by decide) ej_2 dX10_breaks_105 ?_
    refine g_isub dX10_breaks_106 ?_
    obtain ⟨hd_3, h⟩ := h
    refine g_mmax hd_3 mk_X10_337 (by first | exact Nat.le_of_ble_eq_true rfl | decide) dX10_breaks_107 ?_
    exact g_iret dX10_breaks_110 rfl rfl ⟨_, rfl, h⟩
  · have h := h.2 c_1
    refine g_aload_n dX10_breaks_84 rfl ?_
    refine g_iconst (1 : Int32) dX10_breaks_85 rfl ?_
    refine g_iconst (0 : Int32) dX10_breaks_86 rfl ?_
    obtain ⟨d_4, q_5, hd_6, hc_7, h⟩ := h
    refine g_cV ca_X10_390 ob_10 hc_7 hd_6 (by decide) hr0 rfl rfl (by first | exact Nat.le_of_ble_eq_true rfl | decide) dX10_breaks_87 (kV (fun μ_8 hq_10 => ?_))
    have h := h μ_8 hq_10
    refine g_iinc dX10_breaks_90 rfl (by decide) (fun x4_11 ex4_11 => g_sub (lv' := [(0, .ref (D.2.2 10 r0)), (1, .int x1), (2, .int x2), (3, .int x3), (4, .int x4_11)]) [1, 2, 3, 4, 0] rfl ?_)
    have h := h x4_11 ex4_11
    refine g_goto (tgt := 78) dX10_breaks_93 (by decide) ?_
    exact g_sub [0, 1, 2, 3, 4] rfl h
theorem en_X10_breaks {l : Launch} {D : gD} {d : Nat} {q : Int32 → gMem → Prop} {r0 : Nat} {x1 : Int32} {x2 : Int32} {μ : gMem} (h : ∀ Γ : gC, pt_X10_breaks_0 l D d q Γ r0 x1 x2 μ) : Ctr l D d yX10_breaks cX10_breaks 5 (some .int) [.ref (D.2.2 10 r0), .int x1, .int x2] μ (pI q) :=
  Ctr_of rfl (by decide) (Nat.le_of_ble_eq_true rfl) (fun Γ => g_sub [0, 1, 2] rfl (h Γ))
def pt_X10_note_0 (l : Launch) (D : gD) (d : Nat) (q : Int32 → gMem → Prop) (Γ : gC) (r0 : Nat) (x1 : Int32) (x2 : Int32) (x3 : Int32) (x4 : Int32) (μ : gMem) : Prop := G l D RX10 cX10_note 5 (some .int) d (pI q) Γ 0 [(0, .ref (D.2.2 10 r0)), (1, .int x1), (2, .int x2), (3, .int x3), (4, .int x4)] [] μ
set_option maxRecDepth 20000 in
set_option maxHeartbeats 4000000 in
theorem bl_X10_note_0 {l : Launch} {D : gD} {d : Nat} {q : Int32 → gMem → Prop} {Γ : gC} {r0 : Nat} {x1 : Int32} {x2 : Int32} {x3 : Int32} {x4 : Int32} {μ : gMem} (hr0 : r0 < 1) (h : ∀ μ_1 : gMem, μ_1 = gsI μ 10 r0 0 (0 : Int32) → ((x1 < (1 : Int32)) → q (-1 : Int32) μ_1) ∧ ((¬ x1 < (1 : Int32)) → (((40 : Int32) < x1) → q (-1 : Int32) μ_1) ∧ ((¬ (40 : Int32) < x1) → (0 < d) ∧ ((((isn x2 (μ_1.1 707 r0 0)) = 0) → q (-1 : Int32) μ_1) ∧ ((¬ (isn x2 (μ_1.1 707 r0 0)) = 0) → ((x3 < 0) → q (-1 : Int32) μ_1) ∧ ((¬ x3 < 0) → (((99999 : Int32) < x3) → q (-1 : Int32) μ_1) ∧ ((¬ (99999 : Int32) < x3) → ((¬ (μ_1.1 10 r0 55) = (24 : Int32)) → ∃ j_12 : Nat, j_12 < 24 ∧ μ_1.1 10 r0 55 = nI j_12 ∧ (∀ μ_13 : gMem, μ_13 = gsI μ_1 761 r0 j_12 x1 → ∃ j_14 : Nat, j_14 < 24 ∧ μ_13.1 10 r0 55 = nI j_14 ∧ (∀ μ_15 : gMem, μ_15 = gsI μ_13 762 r0 j_14 x2 → ∃ j_16 : Nat, j_16 < 24 ∧ μ_15.1 10 r0 55 = nI j_16 ∧ (∀ μ_17 : gMem, μ_17 = gsI μ_15 763 r0 j_16 x3 → ∃ j_18 : Nat, j_18 < 24 ∧ μ_17.1 10 r0 55 = nI j_18 ∧ (∀ μ_19 : gMem, μ_19 = gsI μ_17 764 r0 j_18 (vp_nar .boolean x4) → ∃ j_20 : Nat, j_20 < 24 ∧ μ_19.1 10 r0 55 = nI j_20 ∧ (∀ μ_21 : gMem, μ_21 = gsI μ_19 765 r0 j_20 (-1 : Int32) → ∀ μ_22 : gMem, μ_22 = gsI μ_21 10 r0 55 ((μ_21.1 10 r0 55) + (1 : Int32)) → q ((μ_22.1 10 r0 55) - (1 : Int32)) μ_22)))))) ∧ (((μ_1.1 10 r0 55) = (24 : Int32)) → q (-1 : Int32) μ_1)))))))) : pt_X10_note_0 l D d q Γ r0 x1 x2 x3 x4 μ := by
  unfold pt_X10_note_0
  refine g_aload_n dX10_note_0 rfl ?_
  refine g_iconst (0 : Int32) dX10_note_1 rfl ?_
  refine g_pfI fi_10_145 hr0 rfl rfl dX10_note_2 ?_
  obtain ⟨μ_1, eμ_1⟩ : ∃ z : gMem, z = gsI μ 10 r0 0 (0 : Int32) := ⟨_, rfl⟩
  have h := h μ_1 eμ_1
  refine g_mem eμ_1.symm ?_
  refine g_iload_n dX10_note_5 rfl ?_
  refine g_iconst (1 : Int32) dX10_note_6 rfl ?_
  refine g_icmp_lt (tgt := 43) dX10_note_7 (by decide) (fun c_2 => ?_) (fun c_2 => ?_)
  · have h := h.1 c_2
    refine g_iconst (-1 : Int32) dX10_note_43 rfl ?_
    exact g_iret dX10_note_44 rfl rfl ⟨_, rfl, h⟩
  · have h := h.2 c_2
    refine g_iload_n dX10_note_10 rfl ?_
    refine g_bipush (40 : Int32) dX10_note_11 rfl ?_
    refine g_icmp_gt (tgt := 43) dX10_note_13 (by decide) (fun c_3 => ?_) (fun c_3 => ?_)
    · have h := h.1 c_3
      refine g_iconst (-1 : Int32) dX10_note_43 rfl ?_
      exact g_iret dX10_note_44 rfl rfl ⟨_, rfl, h⟩
    · have h := h.2 c_3
      refine g_aload_n dX10_note_16 rfl ?_
      refine g_iload_n dX10_note_17 rfl ?_
      obtain ⟨hd_4, h⟩ := h
      refine g_cV ca_X10_394 ob_10 (c_X10_isMan (d := 0) (Nat.le_refl _) hr0 ) hd_4 (by decide) hr0 rfl rfl (by first | exact Nat.le_of_ble_eq_true rfl | decide) dX10_note_18 (kI (fun v_5 μ_6 hq_7 => ?_))
      obtain ⟨ev_5, eμ_6⟩ := hq_7
      subst ev_5
      refine g_mem eμ_6 ?_
      refine g_if_eq (tgt := 43) dX10_note_21 (by decide) (fun c_8 => ?_) (fun c_8 => ?_)
      · have h := h.1 c_8
        refine g_iconst (-1 : Int32) dX10_note_43 rfl ?_
        exact g_iret dX10_note_44 rfl rfl ⟨_, rfl, h⟩
      · have h := h.2 c_8
        refine g_iload_n dX10_note_24 rfl ?_
        refine g_if_lt (tgt := 43) dX10_note_25 (by decide) (fun c_9 => ?_) (fun c_9 => ?_)
        · have h := h.1 c_9
          refine g_iconst (-1 : Int32) dX10_note_43 rfl ?_
          exact g_iret dX10_note_44 rfl rfl ⟨_, rfl, h⟩
        · have h := h.2 c_9
          refine g_iload_n dX10_note_28 rfl ?_
          refine g_ldc kc_X10_183 dX10_note_29 ?_
          refine g_icmp_gt (tgt := 43) dX10_note_31 (by decide) (fun c_10 => ?_) (fun c_10 => ?_)
          · have h := h.1 c_10
            refine g_iconst (-1 : Int32) dX10_note_43 rfl ?_
            exact g_iret dX10_note_44 rfl rfl ⟨_, rfl, h⟩
          · have h := h.2 c_10
            refine g_aload_n dX10_note_34 rfl ?_
            refine g_gfI fi_10_298 hr0 dX10_note_35 ?_
            refine g_bipush (24 : Int32) dX10_note_38 rfl ?_
            refine g_icmp_ne (tgt := 45) dX10_note_40 (by decide) (fun c_11 => ?_) (fun c_11 => ?_)
            · have h := h.1 c_11
              refine g_aload_n dX10_note_45 rfl ?_
              refine g_gfR fl_10_123 rfl hr0 dX10_note_46 ?_
              refine g_aload_n dX10_note_49 rfl ?_
              refine g_gfI fi_10_298 hr0 dX10_note_50 ?_
              refine g_iload_n dX10_note_53 rfl ?_
              obtain ⟨j_12, hj_12, ej_12, h⟩ := h
              refine g_iast j_12 hr0 rfl hj_12 (by decide) ej_12 dX10_note_54 ?_
              obtain ⟨μ_13, eμ_13⟩ : ∃ z : gMem, z = gsI μ_1 761 r0 j_12 x1 := ⟨_, rfl⟩
              have h := h μ_13 eμ_13
              refine g_mem eμ_13.symm ?_
              refine g_aload_n dX10_note_55 rfl ?_
              refine g_gfR fl_10_126 rfl hr0 dX10_note_56 ?_
              refine g_aload_n dX10_note_59 rfl ?_
              refine g_gfI fi_10_298 hr0 dX10_note_60 ?_
              refine g_iload_n dX10_note_63 rfl ?_
              obtain ⟨j_14, hj_14, ej_14, h⟩ := h
              refine g_iast j_14 hr0 rfl hj_14 (by decide) ej_14 dX10_note_64 ?_
              obtain ⟨μ_15, eμ_15⟩ : ∃ z : gMem, z = gsI μ_13 762 r0 j_14 x2 := ⟨_, rfl⟩
              have h := h μ_15 eμ_15
              refine g_mem eμ_15.symm ?_
              refine g_aload_n dX10_note_65 rfl ?_
              refine g_gfR fl_10_129 rfl hr0 dX10_note_66 ?_
              refine g_aload_n dX10_note_69 rfl ?_
              refine g_gfI fi_10_298 hr0 dX10_note_70 ?_
              refine g_iload_n dX10_note_73 rfl ?_
              obtain ⟨j_16, hj_16, ej_16, h⟩ := h
              refine g_iast j_16 hr0 rfl hj_16 (by decide) ej_16 dX10_note_74 ?_
              obtain ⟨μ_17, eμ_17⟩ : ∃ z : gMem, z = gsI μ_15 763 r0 j_16 x3 := ⟨_, rfl⟩
              have h := h μ_17 eμ_17
              refine g_mem eμ_17.symm ?_
              refine g_aload_n dX10_note_75 rfl ?_
              refine g_gfR fl_10_132 rfl hr0 dX10_note_76 ?_
              refine g_aload_n dX10_note_79 rfl ?_
              refine g_gfI fi_10_298 hr0 dX10_note_80 ?_
              refine g_iload dX10_note_83 rfl ?_
              obtain ⟨j_18, hj_18, ej_18, h⟩ := h
              refine g_zast j_18 hr0 rfl hj_18 (by decide) ej_18 dX10_note_85 ?_
              obtain ⟨μ_19, eμ_19⟩ : ∃ z : gMem, z = gsI μ_17 764 r0 j_18 (vp_nar .boolean x4) := ⟨_, rfl⟩
              have h := h μ_19 eμ_19
              refine g_mem eμ_19.symm ?_
              refine g_aload_n dX10_note_86 rfl ?_
              refine g_gfR fl_10_136 rfl hr0 dX10_note_87 ?_
              refine g_aload_n dX10_note_90 rfl ?_
              refine g_gfI fi_10_298 hr0 dX10_note_91 ?_
              refine g_iconst (-1 : Int32) dX10_note_94 rfl ?_
              obtain ⟨j_20, hj_20, ej_20, h⟩ := h
              refine g_iast j_20 hr0 rfl hj_20 (by decide) ej_20 dX10_note_95 ?_
              obtain ⟨μ_21, eμ_21⟩ : ∃ z : gMem, z = gsI μ_19 765 r0 j_20 (-1 : Int32) := ⟨_, rfl⟩
              have h := h μ_21 eμ_21
              refine g_mem eμ_21.symm ?_
              refine g_aload_n dX10_note_96 rfl ?_
              refine g_dup dX10_note_97 rfl ?_
              refine g_gfI fi_10_298 hr0 dX10_note_98 ?_
              refine g_iconst (1 : Int32) dX10_note_101 rfl ?_
              refine g_iadd dX10_note_102 ?_
              refine g_pfI fi_10_298 hr0 rfl rfl dX10_note_103 ?_
              obtain ⟨μ_22, eμ_22⟩ : ∃ z : gMem, z = gsI μ_21 10 r0 55 ((μ_21.1 10 r0 55) + (1 : Int32)) := ⟨_, rfl⟩
              have h := h μ_22 eμ_22
              refine g_mem eμ_22.symm ?_
              refine g_aload_n dX10_note_106 rfl ?_
              refine g_gfI fi_10_298 hr0 dX10_note_107 ?_
              refine g_iconst (1 : Int32) dX10_note_110 rfl ?_
              refine g_isub dX10_note_111 ?_
              exact g_iret dX10_note_112 rfl rfl ⟨_, rfl, h⟩
            · have h := h.2 c_11
              refine g_iconst (-1 : Int32) dX10_note_43 rfl ?_
              exact g_iret dX10_note_44 rfl rfl ⟨_, rfl, h⟩
theorem en_X10_note {l : Launch} {D : gD} {d : Nat} {q : Int32 → gMem → Prop} {r0 : Nat} {x1 : Int32} {x2 : Int32} {x3 : Int32} {x4 : Int32} {μ : gMem} (h : ∀ Γ : gC, pt_X10_note_0 l D d q Γ r0 x1 x2 x3 x4 μ) : Ctr l D d yX10_note cX10_note 5 (some .int) [.ref (D.2.2 10 r0), .int x1, .int x2, .int x3, .int x4] μ (pI q) :=
  Ctr_of rfl (by decide) (Nat.le_of_ble_eq_true rfl) (fun Γ => g_sub [0, 1, 2, 3, 4] rfl (h Γ))
def pt_X10_out_0 (l : Launch) (D : gD) (d : Nat) (q : Int32 → gMem → Prop) (Γ : gC) (r0 : Nat) (x1 : Int32) (μ : gMem) : Prop := G l D RX10 cX10_out 2 (some .int) d (pI q) Γ 0 [(0, .ref (D.2.2 10 r0)), (1, .int x1)] [] μ
set_option maxRecDepth 20000 in
set_option maxHeartbeats 4000000 in
theorem bl_X10_out_0 {l : Launch} {D : gD} {d : Nat} {q : Int32 → gMem → Prop} {Γ : gC} {r0 : Nat} {x1 : Int32} {μ : gMem} (hr0 : r0 < 1) (h : ∀ μ_1 : gMem, μ_1 = gsI μ 10 r0 0 (0 : Int32) → ((x1 < 0) → q (-1 : Int32) μ_1) ∧ ((¬ x1 < 0) → (((μ_1.1 10 r0 55) ≤ x1) → q (-1 : Int32) μ_1) ∧ ((¬ (μ_1.1 10 r0 55) ≤ x1) → ((¬ (μ_1.1 10 r0 55) = (24 : Int32)) → ∃ j_5 : Nat, j_5 < 24 ∧ μ_1.1 10 r0 55 = nI j_5 ∧ (∀ μ_6 : gMem, μ_6 = gsI μ_1 765 r0 j_5 x1 → ∀ μ_7 : gMem, μ_7 = gsI μ_6 10 r0 55 ((μ_6.1 10 r0 55) + (1 : Int32)) → q ((μ_7.1 10 r0 55) - (1 : Int32)) μ_7)) ∧ (((μ_1.1 10 r0 55) = (24 : Int32)) → q (-1 : Int32) μ_1)))) : pt_X10_out_0 l D d q Γ r0 x1 μ := by
  unfold pt_X10_out_0
  refine g_aload_n dX10_out_0 rfl ?_
  refine g_iconst (0 : Int32) dX10_out_1 rfl ?_
  refine g_pfI fi_10_145 hr0 rfl rfl dX10_out_2 ?_
  obtain ⟨μ_1, eμ_1⟩ : ∃ z : gMem, z = gsI μ 10 r0 0 (0 : Int32) := ⟨_, rfl⟩
  have h := h μ_1 eμ_1
  refine g_mem eμ_1.symm ?_
  refine g_iload_n dX10_out_5 rfl ?_
  refine g_if_lt (tgt := 26) dX10_out_6 (by decide) (fun c_2 => ?_) (fun c_2 => ?_)
  · have h := h.1 c_2
    refine g_iconst (-1 : Int32) dX10_out_26 rfl ?_
    exact g_iret dX10_out_27 rfl rfl ⟨_, rfl, h⟩
  · have h := h.2 c_2
    refine g_iload_n dX10_out_9 rfl ?_
    refine g_aload_n dX10_out_10 rfl ?_
    refine g_gfI fi_10_298 hr0 dX10_out_11 ?_
    refine g_icmp_ge (tgt := 26) dX10_out_14 (by decide) (fun c_3 => ?_) (fun c_3 => ?_)
    · have h := h.1 c_3
      refine g_iconst (-1 : Int32) dX10_out_26 rfl ?_
      exact g_iret dX10_out_27 rfl rfl ⟨_, rfl, h⟩
    · have h := h.2 c_3
      refine g_aload_n dX10_out_17 rfl ?_
      refine g_gfI fi_10_298 hr0 dX10_out_18 ?_
      refine g_bipush (24 : Int32) dX10_out_21 rfl ?_
      refine g_icmp_ne (tgt := 28) dX10_out_23 (by decide) (fun c_4 => ?_) (fun c_4 => ?_)
      · have h := h.1 c_4
        refine g_aload_n dX10_out_28 rfl ?_
        refine g_gfR fl_10_136 rfl hr0 dX10_out_29 ?_
        refine g_aload_n dX10_out_32 rfl ?_
        refine g_gfI fi_10_298 hr0 dX10_out_33 ?_
        refine g_iload_n dX10_out_36 rfl ?_
        obtain ⟨j_5, hj_5, ej_5, h⟩ := h
        refine g_iast j_5 hr0 rfl hj_5 (by decide) ej_5 dX10_out_37 ?_
        obtain ⟨μ_6, eμ_6⟩ : ∃ z : gMem, z = gsI μ_1 765 r0 j_5 x1 := ⟨_, rfl⟩
        have h := h μ_6 eμ_6
        refine g_mem eμ_6.symm ?_
        refine g_aload_n dX10_out_38 rfl ?_
        refine g_dup dX10_out_39 rfl ?_
        refine g_gfI fi_10_298 hr0 dX10_out_40 ?_
        refine g_iconst (1 : Int32) dX10_out_43 rfl ?_
        refine g_iadd dX10_out_44 ?_
        refine g_pfI fi_10_298 hr0 rfl rfl dX10_out_45 ?_
        obtain ⟨μ_7, eμ_7⟩ : ∃ z : gMem, z = gsI μ_6 10 r0 55 ((μ_6.1 10 r0 55) + (1 : Int32)) := ⟨_, rfl⟩
        have h := h μ_7 eμ_7
        refine g_mem eμ_7.symm ?_
        refine g_aload_n dX10_out_48 rfl ?_
        refine g_gfI fi_10_298 hr0 dX10_out_49 ?_
        refine g_iconst (1 : Int32) dX10_out_52 rfl ?_
        refine g_isub dX10_out_53 ?_
        exact g_iret dX10_out_54 rfl rfl ⟨_, rfl, h⟩
      · have h := h.2 c_4
        refine g_iconst (-1 : Int32) dX10_out_26 rfl ?_
        exact g_iret dX10_out_27 rfl rfl ⟨_, rfl, h⟩
theorem en_X10_out {l : Launch} {D : gD} {d : Nat} {q : Int32 → gMem → Prop} {r0 : Nat} {x1 : Int32} {μ : gMem} (h : ∀ Γ : gC, pt_X10_out_0 l D d q Γ r0 x1 μ) : Ctr l D d yX10_out cX10_out 2 (some .int) [.ref (D.2.2 10 r0), .int x1] μ (pI q) :=
  Ctr_of rfl (by decide) (Nat.le_of_ble_eq_true rfl) (fun Γ => g_sub [0, 1] rfl (h Γ))
def pt_X10_known_0 (l : Launch) (D : gD) (d : Nat) (q : Int32 → gMem → Prop) (Γ : gC) (r0 : Nat) (x1 : Int32) (μ : gMem) : Prop := G l D RX10 cX10_known 2 (some .boolean) d (pI q) Γ 0 [(0, .ref (D.2.2 10 r0)), (1, .int x1)] [] μ
set_option maxRecDepth 20000 in
set_option maxHeartbeats 4000000 in
theorem bl_X10_known_0 {l : Launch} {D : gD} {d : Nat} {q : Int32 → gMem → Prop} {Γ : gC} {r0 : Nat} {x1 : Int32} {μ : gMem} (hr0 : r0 < 1) (h : ∀ μ_1 : gMem, μ_1 = gsI μ 10 r0 0 (0 : Int32) → ((x1 < (-1 : Int32)) → q (0 : Int32) μ_1) ∧ ((¬ x1 < (-1 : Int32)) → ((x1 ≤ (μ_1.1 10 r0 55)) → ∀ μ_4 : gMem, μ_4 = gsI μ_1 10 r0 56 x1 → q (1 : Int32) μ_4) ∧ ((¬ x1 ≤ (μ_1.1 10 r0 55)) → q (0 : Int32) μ_1))) : pt_X10_known_0 l D d q Γ r0 x1 μ := by
  unfold pt_X10_known_0
  refine g_aload_n dX10_known_0 rfl ?_
  refine g_iconst (0 : Int32) dX10_known_1 rfl ?_
  refine g_pfI fi_10_145 hr0 rfl rfl dX10_known_2 ?_
  obtain ⟨μ_1, eμ_1⟩ : ∃ z : gMem, z = gsI μ 10 r0 0 (0 : Int32) := ⟨_, rfl⟩
  have h := h μ_1 eμ_1
  refine g_mem eμ_1.symm ?_
  refine g_iload_n dX10_known_5 rfl ?_
  refine g_iconst (-1 : Int32) dX10_known_6 rfl ?_
  refine g_icmp_lt (tgt := 18) dX10_known_7 (by decide) (fun c_2 => ?_) (fun c_2 => ?_)
  · have h := h.1 c_2
    refine g_iconst (0 : Int32) dX10_known_18 rfl ?_
    exact g_iret dX10_known_19 rfl rfl ⟨_, rfl, h⟩
  · have h := h.2 c_2
    refine g_iload_n dX10_known_10 rfl ?_
    refine g_aload_n dX10_known_11 rfl ?_
    refine g_gfI fi_10_298 hr0 dX10_known_12 ?_
    refine g_icmp_le (tgt := 20) dX10_known_15 (by decide) (fun c_3 => ?_) (fun c_3 => ?_)
    · have h := h.1 c_3
      refine g_aload_n dX10_known_20 rfl ?_
      refine g_iload_n dX10_known_21 rfl ?_
      refine g_pfI fi_10_120 hr0 rfl rfl dX10_known_22 ?_
      obtain ⟨μ_4, eμ_4⟩ : ∃ z : gMem, z = gsI μ_1 10 r0 56 x1 := ⟨_, rfl⟩
      have h := h μ_4 eμ_4
      refine g_mem eμ_4.symm ?_
      refine g_iconst (1 : Int32) dX10_known_25 rfl ?_
      exact g_iret dX10_known_26 rfl rfl ⟨_, rfl, h⟩
    · have h := h.2 c_3
      refine g_iconst (0 : Int32) dX10_known_18 rfl ?_
      exact g_iret dX10_known_19 rfl rfl ⟨_, rfl, h⟩
theorem en_X10_known {l : Launch} {D : gD} {d : Nat} {q : Int32 → gMem → Prop} {r0 : Nat} {x1 : Int32} {μ : gMem} (h : ∀ Γ : gC, pt_X10_known_0 l D d q Γ r0 x1 μ) : Ctr l D d yX10_known cX10_known 2 (some .boolean) [.ref (D.2.2 10 r0), .int x1] μ (pI q) :=
  Ctr_of rfl (by decide) (Nat.le_of_ble_eq_true rfl) (fun Γ => g_sub [0, 1] rfl (h Γ))
def pt_X10_isSo_0 (l : Launch) (D : gD) (d : Nat) (q : Int32 → gMem → Prop) (Γ : gC) (r0 : Nat) (x1 : Int32) (μ : gMem) : Prop := G l D RX10 cX10_isSo 3 (some .boolean) d (pI q) Γ 0 [(0, .ref (D.2.2 10 r0)), (1, .int x1)] [] μ
def pt_X10_isSo_1 (l : Launch) (D : gD) (d : Nat) (q : Int32 → gMem → Prop) (Γ : gC) (r0 : Nat) (x1 : Int32) (x2 : Int32) (μ : gMem) : Prop := G l D RX10 cX10_isSo 3 (some .boolean) d (pI q) Γ 2 [(0, .ref (D.2.2 10 r0)), (1, .int x1), (2, .int x2)] [] μ
def pt_X10_isSo_2 (l : Launch) (D : gD) (d : Nat) (q : Int32 → gMem → Prop) (Γ : gC) (r0 : Nat) (x1 : Int32) (x2 : Int32) (xs0 : Int32) (μ : gMem) : Prop := G l D RX10 cX10_isSo 3 (some .boolean) d (pI q) Γ 69 [(0, .ref (D.2.2 10 r0)), (1, .int x1), (2, .int x2)] [.int xs0] μ
def pt_X10_isSo_3 (l : Launch) (D : gD) (d : Nat) (q : Int32 → gMem → Prop) (Γ : gC) (r0 : Nat) (x1 : Int32) (x2 : Int32) (μ : gMem) : Prop := G l D RX10 cX10_isSo 3 (some .boolean) d (pI q) Γ 80 [(0, .ref (D.2.2 10 r0)), (1, .int x1), (2, .int x2)] [] μ
set_option maxRecDepth 20000 in
set_option maxHeartbeats 4000000 in
theorem bl_X10_isSo_0 {l : Launch} {D : gD} {d : Nat} {q : Int32 → gMem → Prop} {Γ : gC} {r0 : Nat} {x1 : Int32} {μ : gMem} (hr0 : r0 < 1) (h : ∀ x2_1 : Int32, x2_1 = (0 : Int32) → pt_X10_isSo_1 l D d q Γ r0 x1 x2_1 μ) : pt_X10_isSo_0 l D d q Γ r0 x1 μ := by
  unfold pt_X10_isSo_0
  refine g_iconst (0 : Int32) dX10_isSo_0 rfl ?_
  refine g_istore_n dX10_isSo_1 (by decide) (fun x2_1 ex2_1 => g_sub (lv' := [(0, .ref (D.2.2 10 r0)), (1, .int x1), (2, .int x2_1)]) [1, 2, 0] rfl ?_)
  have h := h x2_1 ex2_1
  exact g_sub [0, 1, 2] rfl h
set_option maxRecDepth 20000 in
set_option maxHeartbeats 4000000 in
theorem bl_X10_isSo_1 {l : Launch} {D : gD} {d : Nat} {q : Int32 → gMem → Prop} {Γ : gC} {r0 : Nat} {x1 : Int32} {x2 : Int32} {μ : gMem} (hr0 : r0 < 1) (h : (0 < d) ∧ ((((fkn (μ.1 10 r0 56) (μ.1 10 r0 55)) ≤ x2) → q (1 : Int32) μ) ∧ ((¬ (fkn (μ.1 10 r0 56) (μ.1 10 r0 55)) ≤ x2) → ∃ j_6 : Nat, j_6 < 24 ∧ x2 = nI j_6 ∧ (((¬ (μ.1 766 r0 j_6) = 0) → pt_X10_isSo_3 l D d q Γ r0 x1 x2 μ) ∧ (((μ.1 766 r0 j_6) = 0) → ∃ j_8 : Nat, j_8 < 24 ∧ x2 = nI j_8 ∧ (((¬ (μ.1 765 r0 j_8) = (-1 : Int32)) → pt_X10_isSo_3 l D d q Γ r0 x1 x2 μ) ∧ (((μ.1 765 r0 j_8) = (-1 : Int32)) → ∃ j_10 : Nat, j_10 < 24 ∧ x2 = nI j_10 ∧ ((((μ.1 761 r0 j_10) = x1) → ∃ j_12 : Nat, j_12 < 24 ∧ x2 = nI j_12 ∧ (∃ j_13 : Nat, j_13 < 115 ∧ (5 : Int32) + (μ.1 762 r0 j_12) = nI j_13 ∧ (∃ j_14 : Nat, j_14 < 24 ∧ x2 = nI j_14 ∧ ((((μ.1 746 r0 j_13) < (μ.1 763 r0 j_14)) → pt_X10_isSo_2 l D d q Γ r0 x1 x2 (0 : Int32) μ) ∧ ((¬ (μ.1 746 r0 j_13) < (μ.1 763 r0 j_14)) → pt_X10_isSo_2 l D d q Γ r0 x1 x2 (1 : Int32) μ))))) ∧ ((¬ (μ.1 761 r0 j_10) = x1) → pt_X10_isSo_3 l D d q Γ r0 x1 x2 μ))))))))) : pt_X10_isSo_1 l D d q Γ r0 x1 x2 μ := by
  unfold pt_X10_isSo_1
  refine g_iload_n dX10_isSo_2 rfl ?_
  refine g_aload_n dX10_isSo_3 rfl ?_
  obtain ⟨hd_1, h⟩ := h
  refine g_cV ca_X10_431 ob_10 (c_X10_knownMany (d := 0) (Nat.le_refl _) hr0 ) hd_1 (by decide) hr0 rfl rfl (by first | exact Nat.le_of_ble_eq_true rfl | decide) dX10_isSo_4 (kI (fun v_2 μ_3 hq_4 => ?_))
  obtain ⟨ev_2, eμ_3⟩ := hq_4
  subst ev_2
  refine g_mem eμ_3 ?_
  refine g_icmp_ge (tgt := 86) dX10_isSo_7 (by decide) (fun c_5 => ?_) (fun c_5 => ?_)
  · have h := h.1 c_5
    refine g_iconst (1 : Int32) dX10_isSo_86 rfl ?_
    exact g_iret dX10_isSo_87 rfl rfl ⟨_, rfl, h⟩
  · have h := h.2 c_5
    refine g_aload_n dX10_isSo_10 rfl ?_
    refine g_gfR fl_10_139 rfl hr0 dX10_isSo_11 ?_
    refine g_iload_n dX10_isSo_14 rfl ?_
    obtain ⟨j_6, hj_6, ej_6, h⟩ := h
    refine g_zald j_6 hr0 rfl hj_6 (by decide) ej_6 dX10_isSo_15 ?_
    refine g_if_ne (tgt := 80) dX10_isSo_16 (by decide) (fun c_7 => ?_) (fun c_7 => ?_)
    · have h := h.1 c_7
      exact g_sub [0, 1, 2] rfl h
    · have h := h.2 c_7
      refine g_aload_n dX10_isSo_19 rfl ?_
      refine g_gfR fl_10_136 rfl hr0 dX10_isSo_20 ?_
      refine g_iload_n dX10_isSo_23 rfl ?_
      obtain ⟨j_8, hj_8, ej_8, h⟩ := h
      refine g_iald j_8 hr0 rfl hj_8 (by decide) ej_8 dX10_isSo_24 ?_
      refine g_iconst (-1 : Int32) dX10_isSo_25 rfl ?_
      refine g_icmp_ne (tgt := 80) dX10_isSo_26 (by decide) (fun c_9 => ?_) (fun c_9 => ?_)
      · have h := h.1 c_9
        exact g_sub [0, 1, 2] rfl h
      · have h := h.2 c_9
        refine g_aload_n dX10_isSo_29 rfl ?_
        refine g_gfR fl_10_123 rfl hr0 dX10_isSo_30 ?_
        refine g_iload_n dX10_isSo_33 rfl ?_
        obtain ⟨j_10, hj_10, ej_10, h⟩ := h
        refine g_iald j_10 hr0 rfl hj_10 (by decide) ej_10 dX10_isSo_34 ?_
        refine g_iload_n dX10_isSo_35 rfl ?_
        refine g_icmp_eq (tgt := 42) dX10_isSo_36 (by decide) (fun c_11 => ?_) (fun c_11 => ?_)
        · have h := h.1 c_11
          refine g_aload_n dX10_isSo_42 rfl ?_
          refine g_gfR fl_10_93 rfl hr0 dX10_isSo_43 ?_
          refine g_iconst (5 : Int32) dX10_isSo_46 rfl ?_
          refine g_aload_n dX10_isSo_47 rfl ?_
          refine g_gfR fl_10_126 rfl hr0 dX10_isSo_48 ?_
          refine g_iload_n dX10_isSo_51 rfl ?_
          obtain ⟨j_12, hj_12, ej_12, h⟩ := h
          refine g_iald j_12 hr0 rfl hj_12 (by decide) ej_12 dX10_isSo_52 ?_
          refine g_iadd dX10_isSo_53 ?_
          obtain ⟨j_13, hj_13, ej_13, h⟩ := h
          refine g_iald j_13 hr0 rfl hj_13 (by decide) ej_13 dX10_isSo_54 ?_
          refine g_aload_n dX10_isSo_55 rfl ?_
          refine g_gfR fl_10_129 rfl hr0 dX10_isSo_56 ?_
          refine g_iload_n dX10_isSo_59 rfl ?_
          obtain ⟨j_14, hj_14, ej_14, h⟩ := h
          refine g_iald j_14 hr0 rfl hj_14 (by decide) ej_14 dX10_isSo_60 ?_
          refine g_icmp_lt (tgt := 68) dX10_isSo_61 (by decide) (fun c_15 => ?_) (fun c_15 => ?_)
          · have h := h.1 c_15
            refine g_iconst (0 : Int32) dX10_isSo_68 rfl ?_
            exact g_sub [0, 1, 2] rfl h
          · have h := h.2 c_15
            refine g_iconst (1 : Int32) dX10_isSo_64 rfl ?_
            refine g_goto (tgt := 69) dX10_isSo_65 (by decide) ?_
            exact g_sub [0, 1, 2] rfl h
        · have h := h.2 c_11
          refine g_goto (tgt := 80) dX10_isSo_39 (by decide) ?_
          exact g_sub [0, 1, 2] rfl h
set_option maxRecDepth 20000 in
set_option maxHeartbeats 4000000 in
theorem bl_X10_isSo_2 {l : Launch} {D : gD} {d : Nat} {q : Int32 → gMem → Prop} {Γ : gC} {r0 : Nat} {x1 : Int32} {x2 : Int32} {xs0 : Int32} {μ : gMem} (hr0 : r0 < 1) (h : ∃ j_1 : Nat, j_1 < 24 ∧ x2 = nI j_1 ∧ (((xs0 = (μ.1 764 r0 j_1)) → pt_X10_isSo_3 l D d q Γ r0 x1 x2 μ) ∧ ((¬ xs0 = (μ.1 764 r0 j_1)) → q (0 : Int32) μ))) : pt_X10_isSo_2 l D d q Γ r0 x1 x2 xs0 μ := by
  unfold pt_X10_isSo_2
  refine g_aload_n dX10_isSo_69 rfl ?_
  refine g_gfR fl_10_132 rfl hr0 dX10_isSo_70 ?_
  refine g_iload_n dX10_isSo_73 rfl ?_
  obtain ⟨j_1, hj_1, ej_1, h⟩ := h
  refine g_zald j_1 hr0 rfl hj_1 (by decide) ej_1 dX10_isSo_74 ?_
  refine g_icmp_eq (tgt := 80) dX10_isSo_75 (by decide) (fun c_2 => ?_) (fun c_2 => ?_)
  · have h := h.1 c_2
    exact g_sub [0, 1, 2] rfl h
  · have h := h.2 c_2
    refine g_iconst (0 : Int32) dX10_isSo_78 rfl ?_
    exact g_iret dX10_isSo_79 rfl rfl ⟨_, rfl, h⟩
set_option maxRecDepth 20000 in
set_option maxHeartbeats 4000000 in
theorem bl_X10_isSo_3 {l : Launch} {D : gD} {d : Nat} {q : Int32 → gMem → Prop} {Γ : gC} {r0 : Nat} {x1 : Int32} {x2 : Int32} {μ : gMem} (hr0 : r0 < 1) (h : ∀ x2_1 : Int32, x2_1 = x2 + (1 : Int32) → pt_X10_isSo_1 l D d q Γ r0 x1 x2_1 μ) : pt_X10_isSo_3 l D d q Γ r0 x1 x2 μ := by
  unfold pt_X10_isSo_3
  refine g_iinc dX10_isSo_80 rfl (by decide) (fun x2_1 ex2_1 => g_sub (lv' := [(0, .ref (D.2.2 10 r0)), (1, .int x1), (2, .int x2_1)]) [1, 2, 0] rfl ?_)
  have h := h x2_1 ex2_1
  refine g_goto (tgt := 2) dX10_isSo_83 (by decide) ?_
  exact g_sub [0, 1, 2] rfl h
theorem en_X10_isSo {l : Launch} {D : gD} {d : Nat} {q : Int32 → gMem → Prop} {r0 : Nat} {x1 : Int32} {μ : gMem} (h : ∀ Γ : gC, pt_X10_isSo_0 l D d q Γ r0 x1 μ) : Ctr l D d yX10_isSo cX10_isSo 3 (some .boolean) [.ref (D.2.2 10 r0), .int x1] μ (pI q) :=
  Ctr_of rfl (by decide) (Nat.le_of_ble_eq_true rfl) (fun Γ => g_sub [0, 1] rfl (h Γ))
def pt_X10_fitsTimes_0 (l : Launch) (D : gD) (d : Nat) (q : Int32 → gMem → Prop) (Γ : gC) (r0 : Nat) (x1 : Int32) (x2 : Int32) (x3 : Int32) (x4 : Int32) (μ : gMem) : Prop := G l D RX10 cX10_fitsTimes 6 (some .boolean) d (pI q) Γ 0 [(0, .ref (D.2.2 10 r0)), (1, .int x1), (2, .int x2), (3, .int x3), (4, .int x4)] [] μ
def pt_X10_fitsTimes_1 (l : Launch) (D : gD) (d : Nat) (q : Int32 → gMem → Prop) (Γ : gC) (r0 : Nat) (x4 : Int32) (x5 : Int32) (μ : gMem) : Prop := G l D RX10 cX10_fitsTimes 6 (some .boolean) d (pI q) Γ 23 [(0, .ref (D.2.2 10 r0)), (4, .int x4), (5, .int x5)] [] μ
set_option maxRecDepth 20000 in
set_option maxHeartbeats 4000000 in
theorem bl_X10_fitsTimes_0 {l : Launch} {D : gD} {d : Nat} {q : Int32 → gMem → Prop} {Γ : gC} {r0 : Nat} {x1 : Int32} {x2 : Int32} {x3 : Int32} {x4 : Int32} {μ : gMem} (hr0 : r0 < 1) (h : ∃ (d_1 : Nat) (q_2 : gMem → Prop), d_1 < d ∧ Ctr l D d_1 yX10_starts cX10_starts 5 none [.ref (D.2.2 10 r0), .int (1 : Int32)] μ (pV q_2) ∧ ∀ (μ_5 : gMem), q_2 μ_5 → ∃ j_8 : Nat, j_8 < 690 ∧ ((30 : Int32) + ((6 : Int32) * x1)) + x2 = nI j_8 ∧ (∀ μ_9 : gMem, μ_9 = gsI μ_5 751 r0 j_8 x3 → ∀ x5_10 : Int32, x5_10 = (1 : Int32) → pt_X10_fitsTimes_1 l D d q Γ r0 x4 x5_10 μ_9)) : pt_X10_fitsTimes_0 l D d q Γ r0 x1 x2 x3 x4 μ := by
  unfold pt_X10_fitsTimes_0
  refine g_aload_n dX10_fitsTimes_0 rfl ?_
  refine g_iconst (1 : Int32) dX10_fitsTimes_1 rfl ?_
  obtain ⟨d_1, q_2, hd_3, hc_4, h⟩ := h
  refine g_cV ca_X10_328 ob_10 hc_4 hd_3 (by decide) hr0 rfl rfl (by first | exact Nat.le_of_ble_eq_true rfl | decide) dX10_fitsTimes_2 (kV (fun μ_5 hq_7 => ?_))
  have h := h μ_5 hq_7
  refine g_aload_n dX10_fitsTimes_5 rfl ?_
  refine g_gfR fl_10_108 rfl hr0 dX10_fitsTimes_6 ?_
  refine g_bipush (30 : Int32) dX10_fitsTimes_9 rfl ?_
  refine g_bipush (6 : Int32) dX10_fitsTimes_11 rfl ?_
  refine g_iload_n dX10_fitsTimes_13 rfl ?_
  refine g_imul dX10_fitsTimes_14 ?_
  refine g_iadd dX10_fitsTimes_15 ?_
  refine g_iload_n dX10_fitsTimes_16 rfl ?_
  refine g_iadd dX10_fitsTimes_17 ?_
  refine g_iload_n dX10_fitsTimes_18 rfl ?_
  obtain ⟨j_8, hj_8, ej_8, h⟩ := h
  refine g_iast j_8 hr0 rfl hj_8 (by decide) ej_8 dX10_fitsTimes_19 ?_
  obtain ⟨μ_9, eμ_9⟩ : ∃ z : gMem, z = gsI μ_5 751 r0 j_8 x3 := ⟨_, rfl⟩
  have h := h μ_9 eμ_9
  refine g_mem eμ_9.symm ?_
  refine g_iconst (1 : Int32) dX10_fitsTimes_20 rfl ?_
  refine g_istore dX10_fitsTimes_21 (by decide) (fun x5_10 ex5_10 => g_sub (lv' := [(0, .ref (D.2.2 10 r0)), (4, .int x4), (5, .int x5_10)]) [1, 5, 0] rfl ?_)
  have h := h x5_10 ex5_10
  exact g_sub [0, 1, 2] rfl h
set_option maxRecDepth 20000 in
set_option maxHeartbeats 4000000 in
theorem bl_X10_fitsTimes_1 {l : Launch} {D : gD} {d : Nat} {q : Int32 → gMem → Prop} {Γ : gC} {r0 : Nat} {x4 : Int32} {x5 : Int32} {μ : gMem} (hr0 : r0 < 1) (h : ((x4 < x5) → q (1 : Int32) μ) ∧ ((¬ x4 < x5) → ∃ (d_2 : Nat) (q_3 : gMem → Prop), d_2 < d ∧ Ctr l D d_2 yX10_passes cX10_passes 6 none [.ref (D.2.2 10 r0), .int (1 : Int32), .int (0 : Int32)] μ (pV q_3) ∧ ∀ (μ_6 : gMem), q_3 μ_6 → ∃ (d_9 : Nat) (q_10 : Int32 → gMem → Prop), d_9 < d ∧ Ctr l D d_9 yX10_isSo cX10_isSo 3 (some .boolean) [.ref (D.2.2 10 r0), .int x5] μ_6 (pI q_10) ∧ ∀ (v_14 : Int32) (μ_13 : gMem), q_10 v_14 μ_13 → ((¬ v_14 = 0) → ∀ x5_17 : Int32, x5_17 = x5 + (1 : Int32) → pt_X10_fitsTimes_1 l D d q Γ r0 x4 x5_17 μ_13) ∧ ((v_14 = 0) → q (0 : Int32) μ_13))) : pt_X10_fitsTimes_1 l D d q Γ r0 x4 x5 μ := by
  unfold pt_X10_fitsTimes_1
  refine g_iload dX10_fitsTimes_23 rfl ?_
  refine g_iload dX10_fitsTimes_25 rfl ?_
  refine g_icmp_gt (tgt := 53) dX10_fitsTimes_27 (by decide) (fun c_1 => ?_) (fun c_1 => ?_)
  · have h := h.1 c_1
    refine g_iconst (1 : Int32) dX10_fitsTimes_53 rfl ?_
    exact g_iret dX10_fitsTimes_54 rfl rfl ⟨_, rfl, h⟩
  · have h := h.2 c_1
    refine g_aload_n dX10_fitsTimes_30 rfl ?_
    refine g_iconst (1 : Int32) dX10_fitsTimes_31 rfl ?_
    refine g_iconst (0 : Int32) dX10_fitsTimes_32 rfl ?_
    obtain ⟨d_2, q_3, hd_4, hc_5, h⟩ := h
    refine g_cV ca_X10_390 ob_10 hc_5 hd_4 (by decide) hr0 rfl rfl (by first | exact Nat.le_of_ble_eq_true rfl | decide) dX10_fitsTimes_33 (kV (fun μ_6 hq_8 => ?_))
    have h := h μ_6 hq_8
    refine g_aload_n dX10_fitsTimes_36 rfl ?_
    refine g_iload dX10_fitsTimes_37 rfl ?_
    obtain ⟨d_9, q_10, hd_11, hc_12, h⟩ := h
    refine g_cV ca_X10_434 ob_10 hc_12 hd_11 (by decide) hr0 rfl rfl (by first | exact Nat.le_of_ble_eq_true rfl | decide) dX10_fitsTimes_39 (kI (fun v_14 μ_13 hq_15 => ?_))
    have h := h v_14 μ_13 hq_15
    refine g_if_ne (tgt := 47) dX10_fitsTimes_42 (by decide) (fun c_16 => ?_) (fun c_16 => ?_)
    · have h := h.1 c_16
      refine g_iinc dX10_fitsTimes_47 rfl (by decide) (fun x5_17 ex5_17 => g_sub (lv' := [(0, .ref (D.2.2 10 r0)), (4, .int x4), (5, .int x5_17)]) [1, 2, 0] rfl ?_)
      have h := h x5_17 ex5_17
      refine g_goto (tgt := 23) dX10_fitsTimes_50 (by decide) ?_
      exact g_sub [0, 1, 2] rfl h
    · have h := h.2 c_16
      refine g_iconst (0 : Int32) dX10_fitsTimes_45 rfl ?_
      exact g_iret dX10_fitsTimes_46 rfl rfl ⟨_, rfl, h⟩
theorem en_X10_fitsTimes {l : Launch} {D : gD} {d : Nat} {q : Int32 → gMem → Prop} {r0 : Nat} {x1 : Int32} {x2 : Int32} {x3 : Int32} {x4 : Int32} {μ : gMem} (h : ∀ Γ : gC, pt_X10_fitsTimes_0 l D d q Γ r0 x1 x2 x3 x4 μ) : Ctr l D d yX10_fitsTimes cX10_fitsTimes 6 (some .boolean) [.ref (D.2.2 10 r0), .int x1, .int x2, .int x3, .int x4] μ (pI q) :=
  Ctr_of rfl (by decide) (Nat.le_of_ble_eq_true rfl) (fun Γ => g_sub [0, 1, 2, 3, 4] rfl (h Γ))
def pt_X10_fits_0 (l : Launch) (D : gD) (d : Nat) (q : Int32 → gMem → Prop) (Γ : gC) (r0 : Nat) (x1 : Int32) (x2 : Int32) (μ : gMem) : Prop := G l D RX10 cX10_fits 6 (some .int) d (pI q) Γ 0 [(0, .ref (D.2.2 10 r0)), (1, .int x1), (2, .int x2)] [] μ
def pt_X10_fits_1 (l : Launch) (D : gD) (d : Nat) (q : Int32 → gMem → Prop) (Γ : gC) (r0 : Nat) (x1 : Int32) (x2 : Int32) (x3 : Int32) (x4 : Int32) (μ : gMem) : Prop := G l D RX10 cX10_fits 6 (some .int) d (pI q) Γ 28 [(0, .ref (D.2.2 10 r0)), (1, .int x1), (2, .int x2), (3, .int x3), (4, .int x4)] [] μ
def pt_X10_fits_2 (l : Launch) (D : gD) (d : Nat) (q : Int32 → gMem → Prop) (Γ : gC) (r0 : Nat) (x1 : Int32) (x2 : Int32) (x3 : Int32) (x4 : Int32) (μ : gMem) : Prop := G l D RX10 cX10_fits 6 (some .int) d (pI q) Γ 59 [(0, .ref (D.2.2 10 r0)), (1, .int x1), (2, .int x2), (3, .int x3), (4, .int x4)] [] μ
def pt_X10_fits_3 (l : Launch) (D : gD) (d : Nat) (q : Int32 → gMem → Prop) (Γ : gC) (r0 : Nat) (x1 : Int32) (x2 : Int32) (x3 : Int32) (x4 : Int32) (μ : gMem) : Prop := G l D RX10 cX10_fits 6 (some .int) d (pI q) Γ 98 [(0, .ref (D.2.2 10 r0)), (1, .int x1), (2, .int x2), (3, .int x3), (4, .int x4)] [] μ
def pt_X10_fits_4 (l : Launch) (D : gD) (d : Nat) (q : Int32 → gMem → Prop) (Γ : gC) (r0 : Nat) (x1 : Int32) (x2 : Int32) (x3 : Int32) (x4 : Int32) (μ : gMem) : Prop := G l D RX10 cX10_fits 6 (some .int) d (pI q) Γ 107 [(0, .ref (D.2.2 10 r0)), (1, .int x1), (2, .int x2), (3, .int x3), (4, .int x4)] [] μ
def pt_X10_fits_5 (l : Launch) (D : gD) (d : Nat) (q : Int32 → gMem → Prop) (Γ : gC) (r0 : Nat) (x1 : Int32) (x2 : Int32) (x3 : Int32) (x4 : Int32) (μ : gMem) : Prop := G l D RX10 cX10_fits 6 (some .int) d (pI q) Γ 149 [(0, .ref (D.2.2 10 r0)), (1, .int x1), (2, .int x2), (3, .int x3), (4, .int x4)] [] μ
def pt_X10_fits_6 (l : Launch) (D : gD) (d : Nat) (q : Int32 → gMem → Prop) (Γ : gC) (r0 : Nat) (x1 : Int32) (x2 : Int32) (x3 : Int32) (x4 : Int32) (x5 : Int32) (μ : gMem) : Prop := G l D RX10 cX10_fits 6 (some .int) d (pI q) Γ 161 [(0, .ref (D.2.2 10 r0)), (1, .int x1), (2, .int x2), (3, .int x3), (4, .int x4), (5, .int x5)] [] μ
def pt_X10_fits_7 (l : Launch) (D : gD) (d : Nat) (q : Int32 → gMem → Prop) (Γ : gC) (r0 : Nat) (x1 : Int32) (x2 : Int32) (x3 : Int32) (x5 : Int32) (xs0 : Int32) (xs1 : Int32) (μ : gMem) : Prop := G l D RX10 cX10_fits 6 (some .int) d (pI q) Γ 190 [(0, .ref (D.2.2 10 r0)), (1, .int x1), (2, .int x2), (3, .int x3), (5, .int x5)] [.int xs1, .int xs0] μ
set_option maxRecDepth 20000 in
set_option maxHeartbeats 4000000 in
theorem bl_X10_fits_0 {l : Launch} {D : gD} {d : Nat} {q : Int32 → gMem → Prop} {Γ : gC} {r0 : Nat} {x1 : Int32} {x2 : Int32} {μ : gMem} (hr0 : r0 < 1) (h : ∀ μ_1 : gMem, μ_1 = gsI μ 10 r0 0 (0 : Int32) → (0 < d) ∧ ((((isn x1 (μ_1.1 707 r0 0)) = 0) → q (-1 : Int32) μ_1) ∧ ((¬ (isn x1 (μ_1.1 707 r0 0)) = 0) → (0 < d) ∧ (((¬ (isn x2 (μ_1.1 707 r0 1)) = 0) → ∀ x3_12 : Int32, x3_12 = (0 : Int32) → ∀ x4_13 : Int32, x4_13 = (0 : Int32) → pt_X10_fits_1 l D d q Γ r0 x1 x2 x3_12 x4_13 μ_1) ∧ (((isn x2 (μ_1.1 707 r0 1)) = 0) → q (-1 : Int32) μ_1))))) : pt_X10_fits_0 l D d q Γ r0 x1 x2 μ := by
  unfold pt_X10_fits_0
  refine g_aload_n dX10_fits_0 rfl ?_
  refine g_iconst (0 : Int32) dX10_fits_1 rfl ?_
  refine g_pfI fi_10_145 hr0 rfl rfl dX10_fits_2 ?_
  obtain ⟨μ_1, eμ_1⟩ : ∃ z : gMem, z = gsI μ 10 r0 0 (0 : Int32) := ⟨_, rfl⟩
  have h := h μ_1 eμ_1
  refine g_mem eμ_1.symm ?_
  refine g_aload_n dX10_fits_5 rfl ?_
  refine g_iload_n dX10_fits_6 rfl ?_
  obtain ⟨hd_2, h⟩ := h
  refine g_cV ca_X10_394 ob_10 (c_X10_isMan (d := 0) (Nat.le_refl _) hr0 ) hd_2 (by decide) hr0 rfl rfl (by first | exact Nat.le_of_ble_eq_true rfl | decide) dX10_fits_7 (kI (fun v_3 μ_4 hq_5 => ?_))
  obtain ⟨ev_3, eμ_4⟩ := hq_5
  subst ev_3
  refine g_mem eμ_4 ?_
  refine g_if_eq (tgt := 21) dX10_fits_10 (by decide) (fun c_6 => ?_) (fun c_6 => ?_)
  · have h := h.1 c_6
    refine g_iconst (-1 : Int32) dX10_fits_21 rfl ?_
    exact g_iret dX10_fits_22 rfl rfl ⟨_, rfl, h⟩
  · have h := h.2 c_6
    refine g_aload_n dX10_fits_13 rfl ?_
    refine g_iload_n dX10_fits_14 rfl ?_
    obtain ⟨hd_7, h⟩ := h
    refine g_cV ca_X10_397 ob_10 (c_X10_isDeed (d := 0) (Nat.le_refl _) hr0 ) hd_7 (by decide) hr0 rfl rfl (by first | exact Nat.le_of_ble_eq_true rfl | decide) dX10_fits_15 (kI (fun v_8 μ_9 hq_10 => ?_))
    obtain ⟨ev_8, eμ_9⟩ := hq_10
    subst ev_8
    refine g_mem eμ_9 ?_
    refine g_if_ne (tgt := 23) dX10_fits_18 (by decide) (fun c_11 => ?_) (fun c_11 => ?_)
    · have h := h.1 c_11
      refine g_iconst (0 : Int32) dX10_fits_23 rfl ?_
      refine g_istore_n dX10_fits_24 (by decide) (fun x3_12 ex3_12 => g_sub (lv' := [(0, .ref (D.2.2 10 r0)), (1, .int x1), (2, .int x2), (3, .int x3_12)]) [1, 2, 3, 0] rfl ?_)
      have h := h x3_12 ex3_12
      refine g_iconst (0 : Int32) dX10_fits_25 rfl ?_
      refine g_istore dX10_fits_26 (by decide) (fun x4_13 ex4_13 => g_sub (lv' := [(0, .ref (D.2.2 10 r0)), (1, .int x1), (2, .int x2), (3, .int x3_12), (4, .int x4_13)]) [1, 2, 3, 4, 0] rfl ?_)
      have h := h x4_13 ex4_13
      exact g_sub [0, 1, 2, 3, 4] rfl h
    · have h := h.2 c_11
      refine g_iconst (-1 : Int32) dX10_fits_21 rfl ?_
      exact g_iret dX10_fits_22 rfl rfl ⟨_, rfl, h⟩
set_option maxRecDepth 20000 in
set_option maxHeartbeats 4000000 in
theorem bl_X10_fits_1 {l : Launch} {D : gD} {d : Nat} {q : Int32 → gMem → Prop} {Γ : gC} {r0 : Nat} {x1 : Int32} {x2 : Int32} {x3 : Int32} {x4 : Int32} {μ : gMem} (hr0 : r0 < 1) (h : (0 < d) ∧ ((((fkn (μ.1 10 r0 56) (μ.1 10 r0 55)) ≤ x4) → (0 < d) ∧ (∀ x4_10 : Int32, x4_10 = (fkn (μ.1 10 r0 56) (μ.1 10 r0 55)) - (1 : Int32) → pt_X10_fits_2 l D d q Γ r0 x1 x2 x3 x4_10 μ)) ∧ ((¬ (fkn (μ.1 10 r0 56) (μ.1 10 r0 55)) ≤ x4) → ∃ j_11 : Nat, j_11 < 24 ∧ x4 = nI j_11 ∧ (∀ μ_12 : gMem, μ_12 = gsI μ 766 r0 j_11 (vp_nar .boolean (0 : Int32)) → ∀ x4_13 : Int32, x4_13 = x4 + (1 : Int32) → pt_X10_fits_1 l D d q Γ r0 x1 x2 x3 x4_13 μ_12)))) : pt_X10_fits_1 l D d q Γ r0 x1 x2 x3 x4 μ := by
  unfold pt_X10_fits_1
  refine g_iload dX10_fits_28 rfl ?_
  refine g_aload_n dX10_fits_30 rfl ?_
  obtain ⟨hd_1, h⟩ := h
  refine g_cV ca_X10_431 ob_10 (c_X10_knownMany (d := 0) (Nat.le_refl _) hr0 ) hd_1 (by decide) hr0 rfl rfl (by first | exact Nat.le_of_ble_eq_true rfl | decide) dX10_fits_31 (kI (fun v_2 μ_3 hq_4 => ?_))
  obtain ⟨ev_2, eμ_3⟩ := hq_4
  subst ev_2
  refine g_mem eμ_3 ?_
  refine g_icmp_ge (tgt := 51) dX10_fits_34 (by decide) (fun c_5 => ?_) (fun c_5 => ?_)
  · have h := h.1 c_5
    refine g_aload_n dX10_fits_51 rfl ?_
    obtain ⟨hd_6, h⟩ := h
    refine g_cV ca_X10_431 ob_10 (c_X10_knownMany (d := 0) (Nat.le_refl _) hr0 ) hd_6 (by decide) hr0 rfl rfl (by first | exact Nat.le_of_ble_eq_true rfl | decide) dX10_fits_52 (kI (fun v_7 μ_8 hq_9 => ?_))
    obtain ⟨ev_7, eμ_8⟩ := hq_9
    subst ev_7
    refine g_mem eμ_8 ?_
    refine g_iconst (1 : Int32) dX10_fits_55 rfl ?_
    refine g_isub dX10_fits_56 ?_
    refine g_istore dX10_fits_57 (by decide) (fun x4_10 ex4_10 => g_sub (lv' := [(0, .ref (D.2.2 10 r0)), (1, .int x1), (2, .int x2), (3, .int x3), (4, .int x4_10)]) [1, 2, 3, 4, 0] rfl ?_)
    have h := h x4_10 ex4_10
    exact g_sub [0, 1, 2, 3, 4] rfl h
  · have h := h.2 c_5
    refine g_aload_n dX10_fits_37 rfl ?_
    refine g_gfR fl_10_139 rfl hr0 dX10_fits_38 ?_
    refine g_iload dX10_fits_41 rfl ?_
    refine g_iconst (0 : Int32) dX10_fits_43 rfl ?_
    obtain ⟨j_11, hj_11, ej_11, h⟩ := h
    refine g_zast j_11 hr0 rfl hj_11 (by decide) ej_11 dX10_fits_44 ?_
    obtain ⟨μ_12, eμ_12⟩ : ∃ z : gMem, z = gsI μ 766 r0 j_11 (vp_nar .boolean (0 : Int32)) := ⟨_, rfl⟩
    have h := h μ_12 eμ_12
    refine g_mem eμ_12.symm ?_
    refine g_iinc dX10_fits_45 rfl (by decide) (fun x4_13 ex4_13 => g_sub (lv' := [(0, .ref (D.2.2 10 r0)), (1, .int x1), (2, .int x2), (3, .int x3), (4, .int x4_13)]) [1, 2, 3, 4, 0] rfl ?_)
    have h := h x4_13 ex4_13
    refine g_goto (tgt := 28) dX10_fits_48 (by decide) ?_
    exact g_sub [0, 1, 2, 3, 4] rfl h
set_option maxRecDepth 20000 in
set_option maxHeartbeats 4000000 in
theorem bl_X10_fits_2 {l : Launch} {D : gD} {d : Nat} {q : Int32 → gMem → Prop} {Γ : gC} {r0 : Nat} {x1 : Int32} {x2 : Int32} {x3 : Int32} {x4 : Int32} {μ : gMem} (hr0 : r0 < 1) (h : ((x4 < 0) → ∀ x4_2 : Int32, x4_2 = (0 : Int32) → pt_X10_fits_4 l D d q Γ r0 x1 x2 x3 x4_2 μ) ∧ ((¬ x4 < 0) → ∃ j_3 : Nat, j_3 < 24 ∧ x4 = nI j_3 ∧ (((¬ (μ.1 766 r0 j_3) = 0) → pt_X10_fits_3 l D d q Γ r0 x1 x2 x3 x4 μ) ∧ (((μ.1 766 r0 j_3) = 0) → ∃ j_5 : Nat, j_5 < 24 ∧ x4 = nI j_5 ∧ ((((μ.1 765 r0 j_5) = (-1 : Int32)) → pt_X10_fits_3 l D d q Γ r0 x1 x2 x3 x4 μ) ∧ ((¬ (μ.1 765 r0 j_5) = (-1 : Int32)) → ∃ j_7 : Nat, j_7 < 24 ∧ x4 = nI j_7 ∧ (∃ j_8 : Nat, j_8 < 24 ∧ μ.1 765 r0 j_7 = nI j_8 ∧ (∀ μ_9 : gMem, μ_9 = gsI μ 766 r0 j_8 (vp_nar .boolean (1 : Int32)) → pt_X10_fits_3 l D d q Γ r0 x1 x2 x3 x4 μ_9)))))))) : pt_X10_fits_2 l D d q Γ r0 x1 x2 x3 x4 μ := by
  unfold pt_X10_fits_2
  refine g_iload dX10_fits_59 rfl ?_
  refine g_if_lt (tgt := 104) dX10_fits_61 (by decide) (fun c_1 => ?_) (fun c_1 => ?_)
  · have h := h.1 c_1
    refine g_iconst (0 : Int32) dX10_fits_104 rfl ?_
    refine g_istore dX10_fits_105 (by decide) (fun x4_2 ex4_2 => g_sub (lv' := [(0, .ref (D.2.2 10 r0)), (1, .int x1), (2, .int x2), (3, .int x3), (4, .int x4_2)]) [1, 2, 3, 4, 0] rfl ?_)
    have h := h x4_2 ex4_2
    exact g_sub [0, 1, 2, 3, 4] rfl h
  · have h := h.2 c_1
    refine g_aload_n dX10_fits_64 rfl ?_
    refine g_gfR fl_10_139 rfl hr0 dX10_fits_65 ?_
    refine g_iload dX10_fits_68 rfl ?_
    obtain ⟨j_3, hj_3, ej_3, h⟩ := h
    refine g_zald j_3 hr0 rfl hj_3 (by decide) ej_3 dX10_fits_70 ?_
    refine g_if_ne (tgt := 98) dX10_fits_71 (by decide) (fun c_4 => ?_) (fun c_4 => ?_)
    · have h := h.1 c_4
      exact g_sub [0, 1, 2, 3, 4] rfl h
    · have h := h.2 c_4
      refine g_aload_n dX10_fits_74 rfl ?_
      refine g_gfR fl_10_136 rfl hr0 dX10_fits_75 ?_
      refine g_iload dX10_fits_78 rfl ?_
      obtain ⟨j_5, hj_5, ej_5, h⟩ := h
      refine g_iald j_5 hr0 rfl hj_5 (by decide) ej_5 dX10_fits_80 ?_
      refine g_iconst (-1 : Int32) dX10_fits_81 rfl ?_
      refine g_icmp_eq (tgt := 98) dX10_fits_82 (by decide) (fun c_6 => ?_) (fun c_6 => ?_)
      · have h := h.1 c_6
        exact g_sub [0, 1, 2, 3, 4] rfl h
      · have h := h.2 c_6
        refine g_aload_n dX10_fits_85 rfl ?_
        refine g_gfR fl_10_139 rfl hr0 dX10_fits_86 ?_
        refine g_aload_n dX10_fits_89 rfl ?_
        refine g_gfR fl_10_136 rfl hr0 dX10_fits_90 ?_
        refine g_iload dX10_fits_93 rfl ?_
        obtain ⟨j_7, hj_7, ej_7, h⟩ := h
        refine g_iald j_7 hr0 rfl hj_7 (by decide) ej_7 dX10_fits_95 ?_
        refine g_iconst (1 : Int32) dX10_fits_96 rfl ?_
        obtain ⟨j_8, hj_8, ej_8, h⟩ := h
        refine g_zast j_8 hr0 rfl hj_8 (by decide) ej_8 dX10_fits_97 ?_
        obtain ⟨μ_9, eμ_9⟩ : ∃ z : gMem, z = gsI μ 766 r0 j_8 (vp_nar .boolean (1 : Int32)) := ⟨_, rfl⟩
        have h := h μ_9 eμ_9
        refine g_mem eμ_9.symm ?_
        exact g_sub [0, 1, 2, 3, 4] rfl h
set_option maxRecDepth 20000 in
set_option maxHeartbeats 4000000 in
theorem bl_X10_fits_3 {l : Launch} {D : gD} {d : Nat} {q : Int32 → gMem → Prop} {Γ : gC} {r0 : Nat} {x1 : Int32} {x2 : Int32} {x3 : Int32} {x4 : Int32} {μ : gMem} (hr0 : r0 < 1) (h : ∀ x4_1 : Int32, x4_1 = x4 + (-1 : Int32) → pt_X10_fits_2 l D d q Γ r0 x1 x2 x3 x4_1 μ) : pt_X10_fits_3 l D d q Γ r0 x1 x2 x3 x4 μ := by
  unfold pt_X10_fits_3
  refine g_iinc dX10_fits_98 rfl (by decide) (fun x4_1 ex4_1 => g_sub (lv' := [(0, .ref (D.2.2 10 r0)), (1, .int x1), (2, .int x2), (3, .int x3), (4, .int x4_1)]) [1, 2, 3, 4, 0] rfl ?_)
  have h := h x4_1 ex4_1
  refine g_goto (tgt := 59) dX10_fits_101 (by decide) ?_
  exact g_sub [0, 1, 2, 3, 4] rfl h
set_option maxRecDepth 20000 in
set_option maxHeartbeats 4000000 in
theorem bl_X10_fits_4 {l : Launch} {D : gD} {d : Nat} {q : Int32 → gMem → Prop} {Γ : gC} {r0 : Nat} {x1 : Int32} {x2 : Int32} {x3 : Int32} {x4 : Int32} {μ : gMem} (hr0 : r0 < 1) (h : (0 < d) ∧ ((((fkn (μ.1 10 r0 56) (μ.1 10 r0 55)) ≤ x4) → ∀ x4_6 : Int32, x4_6 = (0 : Int32) → ∀ x5_7 : Int32, x5_7 = (0 : Int32) → pt_X10_fits_6 l D d q Γ r0 x1 x2 x3 x4_6 x5_7 μ) ∧ ((¬ (fkn (μ.1 10 r0 56) (μ.1 10 r0 55)) ≤ x4) → ∃ j_8 : Nat, j_8 < 24 ∧ x4 = nI j_8 ∧ (((¬ (μ.1 766 r0 j_8) = 0) → pt_X10_fits_5 l D d q Γ r0 x1 x2 x3 x4 μ) ∧ (((μ.1 766 r0 j_8) = 0) → ∃ j_10 : Nat, j_10 < 24 ∧ x4 = nI j_10 ∧ (((¬ (μ.1 765 r0 j_10) = (-1 : Int32)) → pt_X10_fits_5 l D d q Γ r0 x1 x2 x3 x4 μ) ∧ (((μ.1 765 r0 j_10) = (-1 : Int32)) → ∃ j_12 : Nat, j_12 < 24 ∧ x4 = nI j_12 ∧ ((0 < d) ∧ (∀ x3_14 : Int32, x3_14 = imax x3 (μ.1 761 r0 j_12) → pt_X10_fits_5 l D d q Γ r0 x1 x2 x3_14 x4 μ))))))))) : pt_X10_fits_4 l D d q Γ r0 x1 x2 x3 x4 μ := by
  unfold pt_X10_fits_4
  refine g_iload dX10_fits_107 rfl ?_
  refine g_aload_n dX10_fits_109 rfl ?_
  obtain ⟨hd_1, h⟩ := h
  refine g_cV ca_X10_431 ob_10 (c_X10_knownMany (d := 0) (Nat.le_refl _) hr0 ) hd_1 (by decide) hr0 rfl rfl (by first | exact Nat.le_of_ble_eq_true rfl | decide) dX10_fits_110 (kI (fun v_2 μ_3 hq_4 => ?_))
  obtain ⟨ev_2, eμ_3⟩ := hq_4
  subst ev_2
  refine g_mem eμ_3 ?_
  refine g_icmp_ge (tgt := 155) dX10_fits_113 (by decide) (fun c_5 => ?_) (fun c_5 => ?_)
  · have h := h.1 c_5
    refine g_iconst (0 : Int32) dX10_fits_155 rfl ?_
    refine g_istore dX10_fits_156 (by decide) (fun x4_6 ex4_6 => g_sub (lv' := [(0, .ref (D.2.2 10 r0)), (1, .int x1), (2, .int x2), (3, .int x3), (4, .int x4_6)]) [1, 2, 3, 4, 0] rfl ?_)
    have h := h x4_6 ex4_6
    refine g_iconst (0 : Int32) dX10_fits_158 rfl ?_
    refine g_istore dX10_fits_159 (by decide) (fun x5_7 ex5_7 => g_sub (lv' := [(0, .ref (D.2.2 10 r0)), (1, .int x1), (2, .int x2), (3, .int x3), (4, .int x4_6), (5, .int x5_7)]) [1, 2, 3, 4, 5, 0] rfl ?_)
    have h := h x5_7 ex5_7
    exact g_sub [0, 1, 2, 3, 4, 5] rfl h
  · have h := h.2 c_5
    refine g_aload_n dX10_fits_116 rfl ?_
    refine g_gfR fl_10_139 rfl hr0 dX10_fits_117 ?_
    refine g_iload dX10_fits_120 rfl ?_
    obtain ⟨j_8, hj_8, ej_8, h⟩ := h
    refine g_zald j_8 hr0 rfl hj_8 (by decide) ej_8 dX10_fits_122 ?_
    refine g_if_ne (tgt := 149) dX10_fits_123 (by decide) (fun c_9 => ?_) (fun c_9 => ?_)
    · have h := h.1 c_9
      exact g_sub [0, 1, 2, 3, 4] rfl h
    · have h := h.2 c_9
      refine g_aload_n dX10_fits_126 rfl ?_
      refine g_gfR fl_10_136 rfl hr0 dX10_fits_127 ?_
      refine g_iload dX10_fits_130 rfl ?_
      obtain ⟨j_10, hj_10, ej_10, h⟩ := h
      refine g_iald j_10 hr0 rfl hj_10 (by decide) ej_10 dX10_fits_132 ?_
      refine g_iconst (-1 : Int32) dX10_fits_133 rfl ?_
      refine g_icmp_ne (tgt := 149) dX10_fits_134 (by decide) (fun c_11 => ?_) (fun c_11 => ?_)
      · have h := h.1 c_11
        exact g_sub [0, 1, 2, 3, 4] rfl h
      · have h := h.2 c_11
        refine g_iload_n dX10_fits_137 rfl ?_
        refine g_aload_n dX10_fits_138 rfl ?_
        refine g_gfR fl_10_123 rfl hr0 dX10_fits_139 ?_
        refine g_iload dX10_fits_142 rfl ?_
        obtain ⟨j_12, hj_12, ej_12, h⟩ := h
        refine g_iald j_12 hr0 rfl hj_12 (by decide) ej_12 dX10_fits_144 ?_
        obtain ⟨hd_13, h⟩ := h
        refine g_mmax hd_13 mk_X10_337 (by first | exact Nat.le_of_ble_eq_true rfl | decide) dX10_fits_145 ?_
        refine g_istore_n dX10_fits_148 (by decide) (fun x3_14 ex3_14 => g_sub (lv' := [(0, .ref (D.2.2 10 r0)), (1, .int x1), (2, .int x2), (3, .int x3_14), (4, .int x4)]) [1, 2, 3, 0, 4] rfl ?_)
        have h := h x3_14 ex3_14
        exact g_sub [0, 1, 2, 3, 4] rfl h
set_option maxRecDepth 20000 in
set_option maxHeartbeats 4000000 in
theorem bl_X10_fits_5 {l : Launch} {D : gD} {d : Nat} {q : Int32 → gMem → Prop} {Γ : gC} {r0 : Nat} {x1 : Int32} {x2 : Int32} {x3 : Int32} {x4 : Int32} {μ : gMem} (hr0 : r0 < 1) (h : ∀ x4_1 : Int32, x4_1 = x4 + (1 : Int32) → pt_X10_fits_4 l D d q Γ r0 x1 x2 x3 x4_1 μ) : pt_X10_fits_5 l D d q Γ r0 x1 x2 x3 x4 μ := by
  unfold pt_X10_fits_5
  refine g_iinc dX10_fits_149 rfl (by decide) (fun x4_1 ex4_1 => g_sub (lv' := [(0, .ref (D.2.2 10 r0)), (1, .int x1), (2, .int x2), (3, .int x3), (4, .int x4_1)]) [1, 2, 3, 4, 0] rfl ?_)
  have h := h x4_1 ex4_1
  refine g_goto (tgt := 107) dX10_fits_152 (by decide) ?_
  exact g_sub [0, 1, 2, 3, 4] rfl h
set_option maxRecDepth 20000 in
set_option maxHeartbeats 4000000 in
theorem bl_X10_fits_6 {l : Launch} {D : gD} {d : Nat} {q : Int32 → gMem → Prop} {Γ : gC} {r0 : Nat} {x1 : Int32} {x2 : Int32} {x3 : Int32} {x4 : Int32} {x5 : Int32} {μ : gMem} (hr0 : r0 < 1) (h : (((9 : Int32) < x5) → q x4 μ) ∧ ((¬ (9 : Int32) < x5) → ∃ (d_2 : Nat) (q_3 : Int32 → gMem → Prop), d_2 < d ∧ Ctr l D d_2 yX10_fitsTimes cX10_fitsTimes 6 (some .boolean) [.ref (D.2.2 10 r0), .int x1, .int x2, .int x5, .int x3] μ (pI q_3) ∧ ∀ (v_7 : Int32) (μ_6 : gMem), q_3 v_7 μ_6 → ((v_7 = 0) → pt_X10_fits_7 l D d q Γ r0 x1 x2 x3 x5 x4 (0 : Int32) μ_6) ∧ ((¬ v_7 = 0) → pt_X10_fits_7 l D d q Γ r0 x1 x2 x3 x5 x4 ((1 : Int32) <<< (x5 &&& 31)) μ_6))) : pt_X10_fits_6 l D d q Γ r0 x1 x2 x3 x4 x5 μ := by
  unfold pt_X10_fits_6
  refine g_iload dX10_fits_161 rfl ?_
  refine g_bipush (9 : Int32) dX10_fits_163 rfl ?_
  refine g_icmp_gt (tgt := 199) dX10_fits_165 (by decide) (fun c_1 => ?_) (fun c_1 => ?_)
  · have h := h.1 c_1
    refine g_iload dX10_fits_199 rfl ?_
    exact g_iret dX10_fits_201 rfl rfl ⟨_, rfl, h⟩
  · have h := h.2 c_1
    refine g_iload dX10_fits_168 rfl ?_
    refine g_aload_n dX10_fits_170 rfl ?_
    refine g_iload_n dX10_fits_171 rfl ?_
    refine g_iload_n dX10_fits_172 rfl ?_
    refine g_iload dX10_fits_173 rfl ?_
    refine g_iload_n dX10_fits_175 rfl ?_
    obtain ⟨d_2, q_3, hd_4, hc_5, h⟩ := h
    refine g_cV ca_X10_437 ob_10 hc_5 hd_4 (by decide) hr0 rfl rfl (by first | exact Nat.le_of_ble_eq_true rfl | decide) dX10_fits_176 (kI (fun v_7 μ_6 hq_8 => ?_))
    have h := h v_7 μ_6 hq_8
    refine g_if_eq (tgt := 189) dX10_fits_179 (by decide) (fun c_9 => ?_) (fun c_9 => ?_)
    · have h := h.1 c_9
      refine g_iconst (0 : Int32) dX10_fits_189 rfl ?_
      exact g_sub [0, 1, 2, 3, 5] rfl h
    · have h := h.2 c_9
      refine g_iconst (1 : Int32) dX10_fits_182 rfl ?_
      refine g_iload dX10_fits_183 rfl ?_
      refine g_ishl dX10_fits_185 ?_
      refine g_goto (tgt := 190) dX10_fits_186 (by decide) ?_
      exact g_sub [0, 1, 2, 3, 5] rfl h
set_option maxRecDepth 20000 in
set_option maxHeartbeats 4000000 in
theorem bl_X10_fits_7 {l : Launch} {D : gD} {d : Nat} {q : Int32 → gMem → Prop} {Γ : gC} {r0 : Nat} {x1 : Int32} {x2 : Int32} {x3 : Int32} {x5 : Int32} {xs0 : Int32} {xs1 : Int32} {μ : gMem} (hr0 : r0 < 1) (h : ∀ x4_1 : Int32, x4_1 = xs0 ||| xs1 → ∀ x5_2 : Int32, x5_2 = x5 + (1 : Int32) → pt_X10_fits_6 l D d q Γ r0 x1 x2 x3 x4_1 x5_2 μ) : pt_X10_fits_7 l D d q Γ r0 x1 x2 x3 x5 xs0 xs1 μ := by
  unfold pt_X10_fits_7
  refine g_ior dX10_fits_190 ?_
  refine g_istore dX10_fits_191 (by decide) (fun x4_1 ex4_1 => g_sub (lv' := [(0, .ref (D.2.2 10 r0)), (1, .int x1), (2, .int x2), (3, .int x3), (4, .int x4_1), (5, .int x5)]) [1, 2, 3, 4, 0, 5] rfl ?_)
  have h := h x4_1 ex4_1
  refine g_iinc dX10_fits_193 rfl (by decide) (fun x5_2 ex5_2 => g_sub (lv' := [(0, .ref (D.2.2 10 r0)), (1, .int x1), (2, .int x2), (3, .int x3), (4, .int x4_1), (5, .int x5_2)]) [1, 2, 3, 4, 5, 0] rfl ?_)
  have h := h x5_2 ex5_2
  refine g_goto (tgt := 161) dX10_fits_196 (by decide) ?_
  exact g_sub [0, 1, 2, 3, 4, 5] rfl h
theorem en_X10_fits {l : Launch} {D : gD} {d : Nat} {q : Int32 → gMem → Prop} {r0 : Nat} {x1 : Int32} {x2 : Int32} {μ : gMem} (h : ∀ Γ : gC, pt_X10_fits_0 l D d q Γ r0 x1 x2 μ) : Ctr l D d yX10_fits cX10_fits 6 (some .int) [.ref (D.2.2 10 r0), .int x1, .int x2] μ (pI q) :=
  Ctr_of rfl (by decide) (Nat.le_of_ble_eq_true rfl) (fun Γ => g_sub [0, 1, 2] rfl (h Γ))
