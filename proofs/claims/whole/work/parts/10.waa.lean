def pt_J7_fill_53178_0 (l : Launch) (D : gD) (d : Nat) (q : gMem → Prop) (Γ : gC) (k0 : Nat) (i0 : Nat) (x1 : Int32) (μ : gMem) : Prop := G l D RJ7 cJ7_fill_53178 4 none d (pV q) Γ 0 [(0, .ref (D.2.2 k0 i0)), (1, .int x1)] [] μ
def pt_J7_fill_53178_1 (l : Launch) (D : gD) (d : Nat) (q : gMem → Prop) (Γ : gC) (k0 : Nat) (i0 : Nat) (x1 : Int32) (x2 : Int32) (x3 : Int32) (μ : gMem) : Prop := G l D RJ7 cJ7_fill_53178 4 none d (pV q) Γ 5 [(0, .ref (D.2.2 k0 i0)), (1, .int x1), (2, .int x2), (3, .int x3)] [] μ
set_option maxRecDepth 20000 in
set_option maxHeartbeats 4000000 in
theorem bl_J7_fill_53178_0 {l : Launch} {D : gD} {d : Nat} {q : gMem → Prop} {Γ : gC} {k0 : Nat} {i0 : Nat} {x1 : Int32} {μ : gMem} (hk0 : gsh k0 = (1, (gsh k0).2.1, 0)) (hi0 : i0 < gkn k0) (h : ∀ x2_1 : Int32, x2_1 = (0 : Int32) → ∀ x3_2 : Int32, x3_2 = nI (gsh k0).2.1 → pt_J7_fill_53178_1 l D d q Γ k0 i0 x1 x2_1 x3_2 μ) : pt_J7_fill_53178_0 l D d q Γ k0 i0 x1 μ := by
  unfold pt_J7_fill_53178_0
  refine g_iconst (0 : Int32) dJ7_fill_53178_0 rfl ?_
  refine g_istore_n dJ7_fill_53178_1 (by decide) (fun x2_1 ex2_1 => g_sub (lv' := [(0, .ref (D.2.2 k0 i0)), (1, .int x1), (2, .int x2_1)]) [1, 2, 0] rfl ?_)
  have h := h x2_1 ex2_1
  refine g_aload_n dJ7_fill_53178_2 rfl ?_
  refine g_alen hi0 hk0 (Or.inl rfl) dJ7_fill_53178_3 ?_
  refine g_istore_n dJ7_fill_53178_4 (by decide) (fun x3_2 ex3_2 => g_sub (lv' := [(0, .ref (D.2.2 k0 i0)), (1, .int x1), (2, .int x2_1), (3, .int x3_2)]) [1, 2, 3, 0] rfl ?_)
  have h := h x3_2 ex3_2
  exact g_sub [0, 1, 2, 3] rfl h
set_option maxRecDepth 20000 in
set_option maxHeartbeats 4000000 in
theorem bl_J7_fill_53178_1 {l : Launch} {D : gD} {d : Nat} {q : gMem → Prop} {Γ : gC} {k0 : Nat} {i0 : Nat} {x1 : Int32} {x2 : Int32} {x3 : Int32} {μ : gMem} (hk0 : gsh k0 = (1, (gsh k0).2.1, 0)) (hi0 : i0 < gkn k0) (h : ((x3 ≤ x2) → q μ) ∧ ((¬ x3 ≤ x2) → ∃ j_2 : Nat, j_2 < (gsh k0).2.1 ∧ (gsh k0).2.1 < 2 ^ 31 ∧ x2 = nI j_2 ∧ (∀ μ_3 : gMem, μ_3 = gsI μ k0 i0 j_2 x1 → ∀ x2_5 : Int32, x2_5 = x2 + (1 : Int32) → pt_J7_fill_53178_1 l D d q Γ k0 i0 x1 x2_5 x3 μ_3))) : pt_J7_fill_53178_1 l D d q Γ k0 i0 x1 x2 x3 μ := by
  unfold pt_J7_fill_53178_1
  refine g_iload_n dJ7_fill_53178_5 rfl ?_
  refine g_iload_n dJ7_fill_53178_6 rfl ?_
  refine g_icmp_ge (tgt := 20) dJ7_fill_53178_7 (by decide) (fun c_1 => ?_) (fun c_1 => ?_)
  · have h := h.1 c_1
    exact g_vret dJ7_fill_53178_20 rfl ⟨rfl, h⟩
  · have h := h.2 c_1
    refine g_aload_n dJ7_fill_53178_10 rfl ?_
    refine g_iload_n dJ7_fill_53178_11 rfl ?_
    refine g_iload_n dJ7_fill_53178_12 rfl ?_
    obtain ⟨j_2, hj_2, hn_4, ej_2, h⟩ := h
    refine g_iast j_2 hi0 hk0 hj_2 hn_4 ej_2 dJ7_fill_53178_13 ?_
    obtain ⟨μ_3, eμ_3⟩ : ∃ z : gMem, z = gsI μ k0 i0 j_2 x1 := ⟨_, rfl⟩
    have h := h μ_3 eμ_3
    refine g_mem eμ_3.symm ?_
    refine g_iinc dJ7_fill_53178_14 rfl (by decide) (fun x2_5 ex2_5 => g_sub (lv' := [(0, .ref (D.2.2 k0 i0)), (1, .int x1), (2, .int x2_5), (3, .int x3)]) [1, 2, 0, 3] rfl ?_)
    have h := h x2_5 ex2_5
    refine g_goto (tgt := 5) dJ7_fill_53178_17 (by decide) ?_
    exact g_sub [0, 1, 2, 3] rfl h
theorem en_J7_fill_53178 {l : Launch} {D : gD} {d : Nat} {q : gMem → Prop} {k0 : Nat} {i0 : Nat} {x1 : Int32} {μ : gMem} (h : ∀ Γ : gC, pt_J7_fill_53178_0 l D d q Γ k0 i0 x1 μ) : Ctr l D d yJ7_fill_53178 cJ7_fill_53178 4 none [.ref (D.2.2 k0 i0), .int x1] μ (pV q) :=
  Ctr_of rfl (by decide) (Nat.le_of_ble_eq_true rfl) (fun Γ => g_sub [0, 1] rfl (h Γ))
def pt_X0_add_0 (l : Launch) (D : gD) (d : Nat) (q : gMem → Prop) (Γ : gC) (r0 : Nat) (x1 : Int32) (x2 : Int32) (x3 : Int32) (x4 : Int32) (μ : gMem) : Prop := G l D RX0 cX0_add 5 none d (pV q) Γ 0 [(0, .ref (D.2.2 0 r0)), (1, .int x1), (2, .int x2), (3, .int x3), (4, .int x4)] [] μ
def pt_X0_add_1 (l : Launch) (D : gD) (d : Nat) (q : gMem → Prop) (Γ : gC) (r0 : Nat) (x1 : Int32) (x2 : Int32) (x3 : Int32) (x4 : Int32) (μ : gMem) : Prop := G l D RX0 cX0_add 5 none d (pV q) Γ 13 [(0, .ref (D.2.2 0 r0)), (1, .int x1), (2, .int x2), (3, .int x3), (4, .int x4)] [] μ
set_option maxRecDepth 20000 in
set_option maxHeartbeats 4000000 in
theorem bl_X0_add_0 {l : Launch} {D : gD} {d : Nat} {q : gMem → Prop} {Γ : gC} {r0 : Nat} {x1 : Int32} {x2 : Int32} {x3 : Int32} {x4 : Int32} {μ : gMem} (hr0 : r0 < 1) (h : (((μ.1 0 r0 4) < (20 : Int32)) → pt_X0_add_1 l D d q Γ r0 x1 x2 x3 x4 μ) ∧ ((¬ (μ.1 0 r0 4) < (20 : Int32)) → ∃ (d_2 : Nat) (q_3 : gMem → Prop), d_2 < d ∧ Ctr l D d_2 yX0_dropFirst cX0_dropFirst 2 none [.ref (D.2.2 0 r0)] μ (pV q_3) ∧ ∀ (μ_6 : gMem), q_3 μ_6 → pt_X0_add_1 l D d q Γ r0 x1 x2 x3 x4 μ_6)) : pt_X0_add_0 l D d q Γ r0 x1 x2 x3 x4 μ := by
  unfold pt_X0_add_0
  refine g_aload_n dX0_add_0 rfl ?_
  refine g_gfI fi_0_24 hr0 dX0_add_1 ?_
  refine g_bipush (20 : Int32) dX0_add_4 rfl ?_
  refine g_icmp_lt (tgt := 13) dX0_add_6 (by decide) (fun c_1 => ?_) (fun c_1 => ?_)
  · have h := h.1 c_1
    exact g_sub [0, 1, 2, 3, 4] rfl h
  · have h := h.2 c_1
    refine g_aload_n dX0_add_9 rfl ?_
    obtain ⟨d_2, q_3, hd_4, hc_5, h⟩ := h
    refine g_cV ca_X0_28 ob_0 hc_5 hd_4 (by decide) hr0 rfl rfl (by first | exact Nat.le_of_ble_eq_true rfl | decide) dX0_add_10 (kV (fun μ_6 hq_8 => ?_))
    have h := h μ_6 hq_8
    exact g_sub [0, 1, 2, 3, 4] rfl h
set_option maxRecDepth 20000 in
set_option maxHeartbeats 4000000 in
theorem bl_X0_add_1 {l : Launch} {D : gD} {d : Nat} {q : gMem → Prop} {Γ : gC} {r0 : Nat} {x1 : Int32} {x2 : Int32} {x3 : Int32} {x4 : Int32} {μ : gMem} (hr0 : r0 < 1) (h : ∃ j_1 : Nat, j_1 < 20 ∧ μ.1 0 r0 4 = nI j_1 ∧ (∀ μ_2 : gMem, μ_2 = gsI μ 64 r0 j_1 x1 → ∃ j_3 : Nat, j_3 < 20 ∧ μ_2.1 0 r0 4 = nI j_3 ∧ (∀ μ_4 : gMem, μ_4 = gsI μ_2 65 r0 j_3 x2 → ∃ j_5 : Nat, j_5 < 20 ∧ μ_4.1 0 r0 4 = nI j_5 ∧ (∀ μ_6 : gMem, μ_6 = gsI μ_4 66 r0 j_5 x3 → ∃ j_7 : Nat, j_7 < 20 ∧ μ_6.1 0 r0 4 = nI j_7 ∧ (∀ μ_8 : gMem, μ_8 = gsI μ_6 67 r0 j_7 x4 → ∀ μ_9 : gMem, μ_9 = gsI μ_8 0 r0 4 ((μ_8.1 0 r0 4) + (1 : Int32)) → q μ_9))))) : pt_X0_add_1 l D d q Γ r0 x1 x2 x3 x4 μ := by
  unfold pt_X0_add_1
  refine g_aload_n dX0_add_13 rfl ?_
  refine g_gfR fl_0_9 rfl hr0 dX0_add_14 ?_
  refine g_aload_n dX0_add_17 rfl ?_
  refine g_gfI fi_0_24 hr0 dX0_add_18 ?_
  refine g_iload_n dX0_add_21 rfl ?_
  obtain ⟨j_1, hj_1, ej_1, h⟩ := h
  refine g_iast j_1 hr0 rfl hj_1 (by decide) ej_1 dX0_add_22 ?_
  obtain ⟨μ_2, eμ_2⟩ : ∃ z : gMem, z = gsI μ 64 r0 j_1 x1 := ⟨_, rfl⟩
  have h := h μ_2 eμ_2
  refine g_mem eμ_2.symm ?_
  refine g_aload_n dX0_add_23 rfl ?_
  refine g_gfR fl_0_15 rfl hr0 dX0_add_24 ?_
  refine g_aload_n dX0_add_27 rfl ?_
  refine g_gfI fi_0_24 hr0 dX0_add_28 ?_
  refine g_iload_n dX0_add_31 rfl ?_
  obtain ⟨j_3, hj_3, ej_3, h⟩ := h
  refine g_iast j_3 hr0 rfl hj_3 (by decide) ej_3 dX0_add_32 ?_
  obtain ⟨μ_4, eμ_4⟩ : ∃ z : gMem, z = gsI μ_2 65 r0 j_3 x2 := ⟨_, rfl⟩
  have h := h μ_4 eμ_4
  refine g_mem eμ_4.symm ?_
  refine g_aload_n dX0_add_33 rfl ?_
  refine g_gfR fl_0_18 rfl hr0 dX0_add_34 ?_
  refine g_aload_n dX0_add_37 rfl ?_
  refine g_gfI fi_0_24 hr0 dX0_add_38 ?_
  refine g_iload_n dX0_add_41 rfl ?_
  obtain ⟨j_5, hj_5, ej_5, h⟩ := h
  refine g_iast j_5 hr0 rfl hj_5 (by decide) ej_5 dX0_add_42 ?_
  obtain ⟨μ_6, eμ_6⟩ : ∃ z : gMem, z = gsI μ_4 66 r0 j_5 x3 := ⟨_, rfl⟩
  have h := h μ_6 eμ_6
  refine g_mem eμ_6.symm ?_
  refine g_aload_n dX0_add_43 rfl ?_
  refine g_gfR fl_0_21 rfl hr0 dX0_add_44 ?_
  refine g_aload_n dX0_add_47 rfl ?_
  refine g_gfI fi_0_24 hr0 dX0_add_48 ?_
  refine g_iload dX0_add_51 rfl ?_
  obtain ⟨j_7, hj_7, ej_7, h⟩ := h
  refine g_iast j_7 hr0 rfl hj_7 (by decide) ej_7 dX0_add_53 ?_
  obtain ⟨μ_8, eμ_8⟩ : ∃ z : gMem, z = gsI μ_6 67 r0 j_7 x4 := ⟨_, rfl⟩
  have h := h μ_8 eμ_8
  refine g_mem eμ_8.symm ?_
  refine g_aload_n dX0_add_54 rfl ?_
  refine g_dup dX0_add_55 rfl ?_
  refine g_gfI fi_0_24 hr0 dX0_add_56 ?_
  refine g_iconst (1 : Int32) dX0_add_59 rfl ?_
  refine g_iadd dX0_add_60 ?_
  refine g_pfI fi_0_24 hr0 rfl rfl dX0_add_61 ?_
  obtain ⟨μ_9, eμ_9⟩ : ∃ z : gMem, z = gsI μ_8 0 r0 4 ((μ_8.1 0 r0 4) + (1 : Int32)) := ⟨_, rfl⟩
  have h := h μ_9 eμ_9
  refine g_mem eμ_9.symm ?_
  exact g_vret dX0_add_64 rfl ⟨rfl, h⟩
theorem en_X0_add {l : Launch} {D : gD} {d : Nat} {q : gMem → Prop} {r0 : Nat} {x1 : Int32} {x2 : Int32} {x3 : Int32} {x4 : Int32} {μ : gMem} (h : ∀ Γ : gC, pt_X0_add_0 l D d q Γ r0 x1 x2 x3 x4 μ) : Ctr l D d yX0_add cX0_add 5 none [.ref (D.2.2 0 r0), .int x1, .int x2, .int x3, .int x4] μ (pV q) :=
  Ctr_of rfl (by decide) (Nat.le_of_ble_eq_true rfl) (fun Γ => g_sub [0, 1, 2, 3, 4] rfl (h Γ))
def pt_X0_dropFirst_0 (l : Launch) (D : gD) (d : Nat) (q : gMem → Prop) (Γ : gC) (r0 : Nat) (μ : gMem) : Prop := G l D RX0 cX0_dropFirst 2 none d (pV q) Γ 0 [(0, .ref (D.2.2 0 r0))] [] μ
def pt_X0_dropFirst_1 (l : Launch) (D : gD) (d : Nat) (q : gMem → Prop) (Γ : gC) (r0 : Nat) (x1 : Int32) (μ : gMem) : Prop := G l D RX0 cX0_dropFirst 2 none d (pV q) Γ 2 [(0, .ref (D.2.2 0 r0)), (1, .int x1)] [] μ
set_option maxRecDepth 20000 in
set_option maxHeartbeats 4000000 in
theorem bl_X0_dropFirst_0 {l : Launch} {D : gD} {d : Nat} {q : gMem → Prop} {Γ : gC} {r0 : Nat} {μ : gMem} (hr0 : r0 < 1) (h : ∀ x1_1 : Int32, x1_1 = (1 : Int32) → pt_X0_dropFirst_1 l D d q Γ r0 x1_1 μ) : pt_X0_dropFirst_0 l D d q Γ r0 μ := by
  unfold pt_X0_dropFirst_0
  refine g_iconst (1 : Int32) dX0_dropFirst_0 rfl ?_
  refine g_istore_n dX0_dropFirst_1 (by decide) (fun x1_1 ex1_1 => g_sub (lv' := [(0, .ref (D.2.2 0 r0)), (1, .int x1_1)]) [1, 0] rfl ?_)
  have h := h x1_1 ex1_1
  exact g_sub [0, 1] rfl h
set_option maxRecDepth 20000 in
set_option maxHeartbeats 4000000 in
theorem bl_X0_dropFirst_1 {l : Launch} {D : gD} {d : Nat} {q : gMem → Prop} {Γ : gC} {r0 : Nat} {x1 : Int32} {μ : gMem} (hr0 : r0 < 1) (h : (((20 : Int32) ≤ x1) → ∀ μ_2 : gMem, μ_2 = gsI μ 0 r0 4 (19 : Int32) → q μ_2) ∧ ((¬ (20 : Int32) ≤ x1) → ∃ j_3 : Nat, j_3 < 20 ∧ x1 = nI j_3 ∧ (∃ j_4 : Nat, j_4 < 20 ∧ x1 - (1 : Int32) = nI j_4 ∧ (∀ μ_5 : gMem, μ_5 = gsI μ 64 r0 j_4 (μ.1 64 r0 j_3) → ∃ j_6 : Nat, j_6 < 20 ∧ x1 = nI j_6 ∧ (∃ j_7 : Nat, j_7 < 20 ∧ x1 - (1 : Int32) = nI j_7 ∧ (∀ μ_8 : gMem, μ_8 = gsI μ_5 65 r0 j_7 (μ_5.1 65 r0 j_6) → ∃ j_9 : Nat, j_9 < 20 ∧ x1 = nI j_9 ∧ (∃ j_10 : Nat, j_10 < 20 ∧ x1 - (1 : Int32) = nI j_10 ∧ (∀ μ_11 : gMem, μ_11 = gsI μ_8 66 r0 j_10 (μ_8.1 66 r0 j_9) → ∃ j_12 : Nat, j_12 < 20 ∧ x1 = nI j_12 ∧ (∃ j_13 : Nat, j_13 < 20 ∧ x1 - (1 : Int32) = nI j_13 ∧ (∀ μ_14 : gMem, μ_14 = gsI μ_11 67 r0 j_13 (μ_11.1 67 r0 j_12) → ∀ x1_15 : Int32, x1_15 = x1 + (1 : Int32) → pt_X0_dropFirst_1 l D d q Γ r0 x1_15 μ_14)))))))))) : pt_X0_dropFirst_1 l D d q Γ r0 x1 μ := by
  unfold pt_X0_dropFirst_1
  refine g_iload_n dX0_dropFirst_2 rfl ?_
  refine g_bipush (20 : Int32) dX0_dropFirst_3 rfl ?_
  refine g_icmp_ge (tgt := 70) dX0_dropFirst_5 (by decide) (fun c_1 => ?_) (fun c_1 => ?_)
  · have h := h.1 c_1
    refine g_aload_n dX0_dropFirst_70 rfl ?_
    refine g_bipush (19 : Int32) dX0_dropFirst_71 rfl ?_
    refine g_pfI fi_0_24 hr0 rfl rfl dX0_dropFirst_73 ?_
    obtain ⟨μ_2, eμ_2⟩ : ∃ z : gMem, z = gsI μ 0 r0 4 (19 : Int32) := ⟨_, rfl⟩
    have h := h μ_2 eμ_2
    refine g_mem eμ_2.symm ?_
    exact g_vret dX0_dropFirst_76 rfl ⟨rfl, h⟩
  · have h := h.2 c_1
    refine g_aload_n dX0_dropFirst_8 rfl ?_
    refine g_gfR fl_0_9 rfl hr0 dX0_dropFirst_9 ?_
    refine g_iload_n dX0_dropFirst_12 rfl ?_
    refine g_iconst (1 : Int32) dX0_dropFirst_13 rfl ?_
    refine g_isub dX0_dropFirst_14 ?_
    refine g_aload_n dX0_dropFirst_15 rfl ?_
    refine g_gfR fl_0_9 rfl hr0 dX0_dropFirst_16 ?_
    refine g_iload_n dX0_dropFirst_19 rfl ?_
    obtain ⟨j_3, hj_3, ej_3, h⟩ := h
    refine g_iald j_3 hr0 rfl hj_3 (by decide) ej_3 dX0_dropFirst_20 ?_
    obtain ⟨j_4, hj_4, ej_4, h⟩ := h
    refine g_iast j_4 hr0 rfl hj_4 (by decide) ej_4 dX0_dropFirst_21 ?_
    obtain ⟨μ_5, eμ_5⟩ : ∃ z : gMem, z = gsI μ 64 r0 j_4 (μ.1 64 r0 j_3) := ⟨_, rfl⟩
    have h := h μ_5 eμ_5
    refine g_mem eμ_5.symm ?_
    refine g_aload_n dX0_dropFirst_22 rfl ?_
    refine g_gfR fl_0_15 rfl hr0 dX0_dropFirst_23 ?_
    refine g_iload_n dX0_dropFirst_26 rfl ?_
    refine g_iconst (1 : Int32) dX0_dropFirst_27 rfl ?_
    refine g_isub dX0_dropFirst_28 ?_
    refine g_aload_n dX0_dropFirst_29 rfl ?_
    refine g_gfR fl_0_15 rfl hr0 dX0_dropFirst_30 ?_
    refine g_iload_n dX0_dropFirst_33 rfl ?_
    obtain ⟨j_6, hj_6, ej_6, h⟩ := h
    refine g_iald j_6 hr0 rfl hj_6 (by decide) ej_6 dX0_dropFirst_34 ?_
    obtain ⟨j_7, hj_7, ej_7, h⟩ := h
    refine g_iast j_7 hr0 rfl hj_7 (by decide) ej_7 dX0_dropFirst_35 ?_
    obtain ⟨μ_8, eμ_8⟩ : ∃ z : gMem, z = gsI μ_5 65 r0 j_7 (μ_5.1 65 r0 j_6) := ⟨_, rfl⟩
    have h := h μ_8 eμ_8
    refine g_mem eμ_8.symm ?_
    refine g_aload_n dX0_dropFirst_36 rfl ?_
    refine g_gfR fl_0_18 rfl hr0 dX0_dropFirst_37 ?_
    refine g_iload_n dX0_dropFirst_40 rfl ?_
    refine g_iconst (1 : Int32) dX0_dropFirst_41 rfl ?_
    refine g_isub dX0_dropFirst_42 ?_
    refine g_aload_n dX0_dropFirst_43 rfl ?_
    refine g_gfR fl_0_18 rfl hr0 dX0_dropFirst_44 ?_
    refine g_iload_n dX0_dropFirst_47 rfl ?_
    obtain ⟨j_9, hj_9, ej_9, h⟩ := h
    refine g_iald j_9 hr0 rfl hj_9 (by decide) ej_9 dX0_dropFirst_48 ?_
    obtain ⟨j_10, hj_10, ej_10, h⟩ := h
    refine g_iast j_10 hr0 rfl hj_10 (by decide) ej_10 dX0_dropFirst_49 ?_
    obtain ⟨μ_11, eμ_11⟩ : ∃ z : gMem, z = gsI μ_8 66 r0 j_10 (μ_8.1 66 r0 j_9) := ⟨_, rfl⟩
    have h := h μ_11 eμ_11
    refine g_mem eμ_11.symm ?_
    refine g_aload_n dX0_dropFirst_50 rfl ?_
    refine g_gfR fl_0_21 rfl hr0 dX0_dropFirst_51 ?_
    refine g_iload_n dX0_dropFirst_54 rfl ?_
    refine g_iconst (1 : Int32) dX0_dropFirst_55 rfl ?_
    refine g_isub dX0_dropFirst_56 ?_
    refine g_aload_n dX0_dropFirst_57 rfl ?_
    refine g_gfR fl_0_21 rfl hr0 dX0_dropFirst_58 ?_
    refine g_iload_n dX0_dropFirst_61 rfl ?_
    obtain ⟨j_12, hj_12, ej_12, h⟩ := h
    refine g_iald j_12 hr0 rfl hj_12 (by decide) ej_12 dX0_dropFirst_62 ?_
    obtain ⟨j_13, hj_13, ej_13, h⟩ := h
    refine g_iast j_13 hr0 rfl hj_13 (by decide) ej_13 dX0_dropFirst_63 ?_
    obtain ⟨μ_14, eμ_14⟩ : ∃ z : gMem, z = gsI μ_11 67 r0 j_13 (μ_11.1 67 r0 j_12) := ⟨_, rfl⟩
    have h := h μ_14 eμ_14
    refine g_mem eμ_14.symm ?_
    refine g_iinc dX0_dropFirst_64 rfl (by decide) (fun x1_15 ex1_15 => g_sub (lv' := [(0, .ref (D.2.2 0 r0)), (1, .int x1_15)]) [1, 0] rfl ?_)
    have h := h x1_15 ex1_15
    refine g_goto (tgt := 2) dX0_dropFirst_67 (by decide) ?_
    exact g_sub [0, 1] rfl h
theorem en_X0_dropFirst {l : Launch} {D : gD} {d : Nat} {q : gMem → Prop} {r0 : Nat} {μ : gMem} (h : ∀ Γ : gC, pt_X0_dropFirst_0 l D d q Γ r0 μ) : Ctr l D d yX0_dropFirst cX0_dropFirst 2 none [.ref (D.2.2 0 r0)] μ (pV q) :=
  Ctr_of rfl (by decide) (Nat.le_of_ble_eq_true rfl) (fun Γ => g_sub [0] rfl (h Γ))
def pt_X0_takeBack_0 (l : Launch) (D : gD) (d : Nat) (q : gMem → Prop) (Γ : gC) (r0 : Nat) (r1 : Nat) (μ : gMem) : Prop := G l D RX0 cX0_takeBack 3 none d (pV q) Γ 0 [(0, .ref (D.2.2 0 r0)), (1, .ref (D.2.2 8 r1))] [] μ
def pt_X0_takeBack_1 (l : Launch) (D : gD) (d : Nat) (q : gMem → Prop) (Γ : gC) (rs0 : Nat) (xs1 : Int32) (μ : gMem) : Prop := G l D RX0 cX0_takeBack 3 none d (pV q) Γ 87 [] [.int xs1, .ref (D.2.2 4 rs0)] μ
set_option maxRecDepth 20000 in
set_option maxHeartbeats 4000000 in
theorem bl_X0_takeBack_0 {l : Launch} {D : gD} {d : Nat} {q : gMem → Prop} {Γ : gC} {r0 : Nat} {r1 : Nat} {μ : gMem} (hr0 : r0 < 1) (hr1 : r1 < 3) (h : ((¬ (μ.1 0 r0 4) = 0) → ∀ μ_2 : gMem, μ_2 = gsI μ 0 r0 4 ((μ.1 0 r0 4) - (1 : Int32)) → ∃ j_3 : Nat, j_3 < 20 ∧ μ_2.1 0 r0 4 = nI j_3 ∧ (∃ j_4 : Nat, j_4 < 5 ∧ μ_2.1 65 r0 j_3 = nI j_4 ∧ (∃ j_6 : Nat, j_6 < 20 ∧ μ_2.1 0 r0 4 = nI j_6 ∧ ((μ_2.1 64 r0 j_6 = (0 : Int32) → ∃ j_8 : Nat, j_8 < 20 ∧ μ_2.1 0 r0 4 = nI j_8 ∧ (((¬ (μ_2.1 67 r0 j_8) = (1 : Int32)) → pt_X0_takeBack_1 l D d q Γ (5 * r1 + j_4) (0 : Int32) μ_2) ∧ (((μ_2.1 67 r0 j_8) = (1 : Int32)) → pt_X0_takeBack_1 l D d q Γ (5 * r1 + j_4) (1 : Int32) μ_2))) ∧ (μ_2.1 64 r0 j_6 = (1 : Int32) → ∃ j_10 : Nat, j_10 < 20 ∧ μ_2.1 0 r0 4 = nI j_10 ∧ (∀ μ_11 : gMem, μ_11 = gsI μ_2 4 (5 * r1 + j_4) 0 (μ_2.1 67 r0 j_10) → q μ_11)) ∧ (μ_2.1 64 r0 j_6 = (2 : Int32) → ∃ j_12 : Nat, j_12 < 20 ∧ μ_2.1 0 r0 4 = nI j_12 ∧ (∃ j_13 : Nat, j_13 < 20 ∧ μ_2.1 0 r0 4 = nI j_13 ∧ (∃ j_14 : Nat, j_14 < 6 ∧ μ_2.1 66 r0 j_12 = nI j_14 ∧ (∀ μ_15 : gMem, μ_15 = gsI μ_2 331 (5 * r1 + j_4) j_14 (μ_2.1 67 r0 j_13) → q μ_15)))) ∧ ((¬ μ_2.1 64 r0 j_6 = (0 : Int32) ∧ ¬ μ_2.1 64 r0 j_6 = (1 : Int32) ∧ ¬ μ_2.1 64 r0 j_6 = (2 : Int32)) → ∃ j_16 : Nat, j_16 < 20 ∧ μ_2.1 0 r0 4 = nI j_16 ∧ (∀ μ_17 : gMem, μ_17 = gsI μ_2 4 (5 * r1 + j_4) 9 (μ_2.1 67 r0 j_16) → q μ_17)))))) ∧ (((μ.1 0 r0 4) = 0) → q μ)) : pt_X0_takeBack_0 l D d q Γ r0 r1 μ := by
  unfold pt_X0_takeBack_0
  refine g_aload_n dX0_takeBack_0 rfl ?_
  refine g_gfI fi_0_24 hr0 dX0_takeBack_1 ?_
  refine g_if_ne (tgt := 8) dX0_takeBack_4 (by decide) (fun c_1 => ?_) (fun c_1 => ?_)
  · have h := h.1 c_1
    refine g_aload_n dX0_takeBack_8 rfl ?_
    refine g_dup dX0_takeBack_9 rfl ?_
    refine g_gfI fi_0_24 hr0 dX0_takeBack_10 ?_
    refine g_iconst (1 : Int32) dX0_takeBack_13 rfl ?_
    refine g_isub dX0_takeBack_14 ?_
    refine g_pfI fi_0_24 hr0 rfl rfl dX0_takeBack_15 ?_
    obtain ⟨μ_2, eμ_2⟩ : ∃ z : gMem, z = gsI μ 0 r0 4 ((μ.1 0 r0 4) - (1 : Int32)) := ⟨_, rfl⟩
    have h := h μ_2 eμ_2
    refine g_mem eμ_2.symm ?_
    refine g_aload_n dX0_takeBack_18 rfl ?_
    refine g_gfR fl_0_31 rfl hr1 dX0_takeBack_19 ?_
    refine g_aload_n dX0_takeBack_22 rfl ?_
    refine g_gfR fl_0_15 rfl hr0 dX0_takeBack_23 ?_
    refine g_aload_n dX0_takeBack_26 rfl ?_
    refine g_gfI fi_0_24 hr0 dX0_takeBack_27 ?_
    obtain ⟨j_3, hj_3, ej_3, h⟩ := h
    refine g_iald j_3 hr0 rfl hj_3 (by decide) ej_3 dX0_takeBack_30 ?_
    obtain ⟨j_4, hj_4, ej_4, h⟩ := h
    refine g_aald j_4 hr1 hj_4 ej_4 dX0_takeBack_31 ?_
    have hp_5 : 5 * r1 + j_4 < 15 := by have : r1 < 3 := hr1; omega
    refine g_astore_n dX0_takeBack_32 (by decide) (g_sub (lv' := [(0, .ref (D.2.2 0 r0)), (2, .ref (D.2.2 4 (5 * r1 + j_4)))]) [1, 0] rfl ?_)
    refine g_aload_n dX0_takeBack_33 rfl ?_
    refine g_gfR fl_0_9 rfl hr0 dX0_takeBack_34 ?_
    refine g_aload_n dX0_takeBack_37 rfl ?_
    refine g_gfI fi_0_24 hr0 dX0_takeBack_38 ?_
    obtain ⟨j_6, hj_6, ej_6, h⟩ := h
    refine g_iald j_6 hr0 rfl hj_6 (by decide) ej_6 dX0_takeBack_41 ?_
    by_cases c_7_0 : μ_2.1 64 r0 j_6 = (0 : Int32)
    · refine g_tableIn (off := 26) (tgt := 68) dX0_takeBack_42 (by rw [c_7_0]; decide) (by rw [c_7_0]; decide) (by rw [c_7_0]; rfl) (by decide) ?_
      have h := h.1 c_7_0
      refine g_aload_n dX0_takeBack_68 rfl ?_
      refine g_aload_n dX0_takeBack_69 rfl ?_
      refine g_gfR fl_0_21 rfl hr0 dX0_takeBack_70 ?_
      refine g_aload_n dX0_takeBack_73 rfl ?_
      refine g_gfI fi_0_24 hr0 dX0_takeBack_74 ?_
      obtain ⟨j_8, hj_8, ej_8, h⟩ := h
      refine g_iald j_8 hr0 rfl hj_8 (by decide) ej_8 dX0_takeBack_77 ?_
      refine g_iconst (1 : Int32) dX0_takeBack_78 rfl ?_
      refine g_icmp_ne (tgt := 86) dX0_takeBack_79 (by decide) (fun c_9 => ?_) (fun c_9 => ?_)
      · have h := h.1 c_9
        refine g_iconst (0 : Int32) dX0_takeBack_86 rfl ?_
        exact g_sub [] rfl h
      · have h := h.2 c_9
        refine g_iconst (1 : Int32) dX0_takeBack_82 rfl ?_
        refine g_goto (tgt := 87) dX0_takeBack_83 (by decide) ?_
        exact g_sub [] rfl h
    by_cases c_7_1 : μ_2.1 64 r0 j_6 = (1 : Int32)
    · refine g_tableIn (off := 51) (tgt := 93) dX0_takeBack_42 (by rw [c_7_1]; decide) (by rw [c_7_1]; decide) (by rw [c_7_1]; rfl) (by decide) ?_
      have h := h.2.1 c_7_1
      refine g_aload_n dX0_takeBack_93 rfl ?_
      refine g_aload_n dX0_takeBack_94 rfl ?_
      refine g_gfR fl_0_21 rfl hr0 dX0_takeBack_95 ?_
      refine g_aload_n dX0_takeBack_98 rfl ?_
      refine g_gfI fi_0_24 hr0 dX0_takeBack_99 ?_
      obtain ⟨j_10, hj_10, ej_10, h⟩ := h
      refine g_iald j_10 hr0 rfl hj_10 (by decide) ej_10 dX0_takeBack_102 ?_
      refine g_pfI fi_0_43 hp_5 rfl rfl dX0_takeBack_103 ?_
      obtain ⟨μ_11, eμ_11⟩ : ∃ z : gMem, z = gsI μ_2 4 (5 * r1 + j_4) 0 (μ_2.1 67 r0 j_10) := ⟨_, rfl⟩
      have h := h μ_11 eμ_11
      refine g_mem eμ_11.symm ?_
      refine g_goto (tgt := 148) dX0_takeBack_106 (by decide) ?_
      exact g_vret dX0_takeBack_148 rfl ⟨rfl, h⟩
    by_cases c_7_2 : μ_2.1 64 r0 j_6 = (2 : Int32)
    · refine g_tableIn (off := 67) (tgt := 109) dX0_takeBack_42 (by rw [c_7_2]; decide) (by rw [c_7_2]; decide) (by rw [c_7_2]; rfl) (by decide) ?_
      have h := h.2.2.1 c_7_2
      refine g_aload_n dX0_takeBack_109 rfl ?_
      refine g_gfR fl_0_46 rfl hp_5 dX0_takeBack_110 ?_
      refine g_aload_n dX0_takeBack_113 rfl ?_
      refine g_gfR fl_0_18 rfl hr0 dX0_takeBack_114 ?_
      refine g_aload_n dX0_takeBack_117 rfl ?_
      refine g_gfI fi_0_24 hr0 dX0_takeBack_118 ?_
      obtain ⟨j_12, hj_12, ej_12, h⟩ := h
      refine g_iald j_12 hr0 rfl hj_12 (by decide) ej_12 dX0_takeBack_121 ?_
      refine g_aload_n dX0_takeBack_122 rfl ?_
      refine g_gfR fl_0_21 rfl hr0 dX0_takeBack_123 ?_
      refine g_aload_n dX0_takeBack_126 rfl ?_
      refine g_gfI fi_0_24 hr0 dX0_takeBack_127 ?_
      obtain ⟨j_13, hj_13, ej_13, h⟩ := h
      refine g_iald j_13 hr0 rfl hj_13 (by decide) ej_13 dX0_takeBack_130 ?_
      obtain ⟨j_14, hj_14, ej_14, h⟩ := h
      refine g_iast j_14 hp_5 rfl hj_14 (by decide) ej_14 dX0_takeBack_131 ?_
      obtain ⟨μ_15, eμ_15⟩ : ∃ z : gMem, z = gsI μ_2 331 (5 * r1 + j_4) j_14 (μ_2.1 67 r0 j_13) := ⟨_, rfl⟩
      have h := h μ_15 eμ_15
      refine g_mem eμ_15.symm ?_
      refine g_goto (tgt := 148) dX0_takeBack_132 (by decide) ?_
      exact g_vret dX0_takeBack_148 rfl ⟨rfl, h⟩
    have c_7_o : ((μ_2.1 64 r0 j_6)).toInt < 0 ∨ 2 < ((μ_2.1 64 r0 j_6)).toInt := by
      have := lv_neT c_7_0 (a := 0) rfl
      have := lv_neT c_7_1 (a := 1) rfl
      have := lv_neT c_7_2 (a := 2) rfl
      omega
    refine g_tableOut (tgt := 135) dX0_takeBack_42 c_7_o (by decide) ?_
    have h := h.2.2.2 ⟨c_7_0, c_7_1, c_7_2⟩
    refine g_aload_n dX0_takeBack_135 rfl ?_
    refine g_aload_n dX0_takeBack_136 rfl ?_
    refine g_gfR fl_0_21 rfl hr0 dX0_takeBack_137 ?_
    refine g_aload_n dX0_takeBack_140 rfl ?_
    refine g_gfI fi_0_24 hr0 dX0_takeBack_141 ?_
    obtain ⟨j_16, hj_16, ej_16, h⟩ := h
    refine g_iald j_16 hr0 rfl hj_16 (by decide) ej_16 dX0_takeBack_144 ?_
    refine g_pfI fi_0_49 hp_5 rfl rfl dX0_takeBack_145 ?_
    obtain ⟨μ_17, eμ_17⟩ : ∃ z : gMem, z = gsI μ_2 4 (5 * r1 + j_4) 9 (μ_2.1 67 r0 j_16) := ⟨_, rfl⟩
    have h := h μ_17 eμ_17
    refine g_mem eμ_17.symm ?_
    exact g_vret dX0_takeBack_148 rfl ⟨rfl, h⟩
  · have h := h.2 c_1
    exact g_vret dX0_takeBack_7 rfl ⟨rfl, h⟩
set_option maxRecDepth 20000 in
set_option maxHeartbeats 4000000 in
theorem bl_X0_takeBack_1 {l : Launch} {D : gD} {d : Nat} {q : gMem → Prop} {Γ : gC} {rs0 : Nat} {xs1 : Int32} {μ : gMem} (hrs0 : rs0 < 15) (h : (xs1 = 0 ∨ xs1 = 1) ∧ (∀ μ_1 : gMem, μ_1 = gsI μ 4 rs0 10 xs1 → q μ_1)) : pt_X0_takeBack_1 l D d q Γ rs0 xs1 μ := by
  unfold pt_X0_takeBack_1
  obtain ⟨hz_2, h⟩ := h
  refine g_pfI fi_0_37 hrs0 (nar_z hz_2).1 (nar_z hz_2).2 dX0_takeBack_87 ?_
  obtain ⟨μ_1, eμ_1⟩ : ∃ z : gMem, z = gsI μ 4 rs0 10 xs1 := ⟨_, rfl⟩
  have h := h μ_1 eμ_1
  refine g_mem eμ_1.symm ?_
  refine g_goto (tgt := 148) dX0_takeBack_90 (by decide) ?_
  exact g_vret dX0_takeBack_148 rfl ⟨rfl, h⟩
theorem en_X0_takeBack {l : Launch} {D : gD} {d : Nat} {q : gMem → Prop} {r0 : Nat} {r1 : Nat} {μ : gMem} (h : ∀ Γ : gC, pt_X0_takeBack_0 l D d q Γ r0 r1 μ) : Ctr l D d yX0_takeBack cX0_takeBack 3 none [.ref (D.2.2 0 r0), .ref (D.2.2 8 r1)] μ (pV q) :=
  Ctr_of rfl (by decide) (Nat.le_of_ble_eq_true rfl) (fun Γ => g_sub [0, 1] rfl (h Γ))
def pt_X1_readInto_0 (l : Launch) (D : gD) (d : Nat) (q : Int32 → gMem → Prop) (Γ : gC) (r0 : Nat) (r1 : Nat) (x2 : Int32) (r3 : Nat) (μ : gMem) : Prop := G l D RX1 cX1_readInto 5 (some .int) d (pI q) Γ 0 [(0, .ref (D.2.2 1 r0)), (1, .ref (D.2.2 2 r1)), (2, .int x2), (3, .ref (D.2.2 6 r3))] [] μ
def pt_X1_readInto_1 (l : Launch) (D : gD) (d : Nat) (q : Int32 → gMem → Prop) (Γ : gC) (r0 : Nat) (r1 : Nat) (x2 : Int32) (r3 : Nat) (x4 : Int32) (μ : gMem) : Prop := G l D RX1 cX1_readInto 5 (some .int) d (pI q) Γ 38 [(0, .ref (D.2.2 1 r0)), (1, .ref (D.2.2 2 r1)), (2, .int x2), (3, .ref (D.2.2 6 r3)), (4, .int x4)] [] μ
def pt_X1_readInto_2 (l : Launch) (D : gD) (d : Nat) (q : Int32 → gMem → Prop) (Γ : gC) (r0 : Nat) (r1 : Nat) (x2 : Int32) (r3 : Nat) (x4 : Int32) (μ : gMem) : Prop := G l D RX1 cX1_readInto 5 (some .int) d (pI q) Γ 167 [(0, .ref (D.2.2 1 r0)), (1, .ref (D.2.2 2 r1)), (2, .int x2), (3, .ref (D.2.2 6 r3)), (4, .int x4)] [] μ
def pt_X1_readInto_3 (l : Launch) (D : gD) (d : Nat) (q : Int32 → gMem → Prop) (Γ : gC) (r0 : Nat) (r1 : Nat) (x2 : Int32) (μ : gMem) : Prop := G l D RX1 cX1_readInto 5 (some .int) d (pI q) Γ 177 [(0, .ref (D.2.2 1 r0)), (1, .ref (D.2.2 2 r1)), (2, .int x2)] [] μ
set_option maxRecDepth 20000 in
set_option maxHeartbeats 4000000 in
theorem bl_X1_readInto_0 {l : Launch} {D : gD} {d : Nat} {q : Int32 → gMem → Prop} {Γ : gC} {r0 : Nat} {r1 : Nat} {x2 : Int32} {r3 : Nat} {μ : gMem} (hr0 : r0 < 1) (hr1 : r1 < 2) (hr3 : r3 < 1) (h : ∀ μ_1 : gMem, μ_1 = gsI μ 1 r0 1 (0 : Int32) → ∀ μ_2 : gMem, μ_2 = gsI μ_1 1 r0 3 (0 : Int32) → ∀ μ_4 : gMem, μ_4 = gsI μ_2 130 r0 0 (vp_nar .boolean (0 : Int32)) → ∀ μ_5 : gMem, μ_5 = gsI μ_4 1 r0 4 (1 : Int32) → ∀ μ_6 : gMem, μ_6 = gsI μ_5 1 r0 5 (1 : Int32) → ∃ (d_7 : Nat) (q_8 : gMem → Prop), d_7 < d ∧ Ctr l D d_7 yX2_begin cX2_begin 2 none [.ref (D.2.2 2 r1), .int x2] μ_6 (pV q_8) ∧ ∀ (μ_11 : gMem), q_8 μ_11 → ∀ x4_14 : Int32, x4_14 = μ_11.1 6 r3 3 → pt_X1_readInto_1 l D d q Γ r0 r1 x2 r3 x4_14 μ_11) : pt_X1_readInto_0 l D d q Γ r0 r1 x2 r3 μ := by
  unfold pt_X1_readInto_0
  refine g_aload_n dX1_readInto_0 rfl ?_
  refine g_iconst (0 : Int32) dX1_readInto_1 rfl ?_
  refine g_pfI fi_1_19 hr0 rfl rfl dX1_readInto_2 ?_
  obtain ⟨μ_1, eμ_1⟩ : ∃ z : gMem, z = gsI μ 1 r0 1 (0 : Int32) := ⟨_, rfl⟩
  have h := h μ_1 eμ_1
  refine g_mem eμ_1.symm ?_
  refine g_aload_n dX1_readInto_5 rfl ?_
  refine g_iconst (0 : Int32) dX1_readInto_6 rfl ?_
  refine g_pfI fi_1_23 hr0 rfl rfl dX1_readInto_7 ?_
  obtain ⟨μ_2, eμ_2⟩ : ∃ z : gMem, z = gsI μ_1 1 r0 3 (0 : Int32) := ⟨_, rfl⟩
  have h := h μ_2 eμ_2
  refine g_mem eμ_2.symm ?_
  refine g_aload_n dX1_readInto_10 rfl ?_
  refine g_gfR fl_1_15 rfl hr0 dX1_readInto_11 ?_
  refine g_iconst (0 : Int32) dX1_readInto_14 rfl ?_
  refine g_iconst (0 : Int32) dX1_readInto_15 rfl ?_
  refine g_zast 0 hr0 rfl (by decide) (by decide) rfl dX1_readInto_16 ?_
  obtain ⟨μ_4, eμ_4⟩ : ∃ z : gMem, z = gsI μ_2 130 r0 0 (vp_nar .boolean (0 : Int32)) := ⟨_, rfl⟩
  have h := h μ_4 eμ_4
  refine g_mem eμ_4.symm ?_
  refine g_aload_n dX1_readInto_17 rfl ?_
  refine g_iconst (1 : Int32) dX1_readInto_18 rfl ?_
  refine g_pfI fi_1_26 hr0 rfl rfl dX1_readInto_19 ?_
  obtain ⟨μ_5, eμ_5⟩ : ∃ z : gMem, z = gsI μ_4 1 r0 4 (1 : Int32) := ⟨_, rfl⟩
  have h := h μ_5 eμ_5
  refine g_mem eμ_5.symm ?_
  refine g_aload_n dX1_readInto_22 rfl ?_
  refine g_iconst (1 : Int32) dX1_readInto_23 rfl ?_
  refine g_pfI fi_1_30 hr0 rfl rfl dX1_readInto_24 ?_
  obtain ⟨μ_6, eμ_6⟩ : ∃ z : gMem, z = gsI μ_5 1 r0 5 (1 : Int32) := ⟨_, rfl⟩
  have h := h μ_6 eμ_6
  refine g_mem eμ_6.symm ?_
  refine g_aload_n dX1_readInto_27 rfl ?_
  refine g_iload_n dX1_readInto_28 rfl ?_
  obtain ⟨d_7, q_8, hd_9, hc_10, h⟩ := h
  refine g_cV ca_X1_33 ob_2 hc_10 hd_9 (by decide) hr1 rfl rfl (by first | exact Nat.le_of_ble_eq_true rfl | decide) dX1_readInto_29 (kV (fun μ_11 hq_13 => ?_))
  have h := h μ_11 hq_13
  refine g_aload_n dX1_readInto_32 rfl ?_
  refine g_gfI fi_1_39 hr3 dX1_readInto_33 ?_
  refine g_istore dX1_readInto_36 (by decide) (fun x4_14 ex4_14 => g_sub (lv' := [(0, .ref (D.2.2 1 r0)), (1, .ref (D.2.2 2 r1)), (2, .int x2), (3, .ref (D.2.2 6 r3)), (4, .int x4_14)]) [1, 2, 3, 4, 0] rfl ?_)
  have h := h x4_14 ex4_14
  exact g_sub [0, 1, 2, 3, 4] rfl h
set_option maxRecDepth 20000 in
set_option maxHeartbeats 4000000 in
theorem bl_X1_readInto_1 {l : Launch} {D : gD} {d : Nat} {q : Int32 → gMem → Prop} {Γ : gC} {r0 : Nat} {r1 : Nat} {x2 : Int32} {r3 : Nat} {x4 : Int32} {μ : gMem} (hr0 : r0 < 1) (hr1 : r1 < 2) (hr3 : r3 < 1) (h : ((x4 ≤ 0) → pt_X1_readInto_3 l D d q Γ r0 r1 x2 μ) ∧ ((¬ x4 ≤ 0) → ∃ (d_2 : Nat) (q_3 : Int32 → gMem → Prop), d_2 < d ∧ Ctr l D d_2 yX1_canStand cX1_canStand 2 (some .boolean) [.ref (D.2.2 1 r0), .int (μ.1 6 r3 5)] μ (pI q_3) ∧ ∀ (v_7 : Int32) (μ_6 : gMem), q_3 v_7 μ_6 → ((v_7 = 0) → pt_X1_readInto_3 l D d q Γ r0 r1 x2 μ_6) ∧ ((¬ v_7 = 0) → ∃ (d_10 : Nat) (q_11 : Int32 → gMem → Prop), d_10 < d ∧ Ctr l D d_10 yX1_isTooMuch cX1_isTooMuch 4 (some .boolean) [.ref (D.2.2 1 r0), .int (μ_6.1 6 r3 5), .int (μ_6.1 6 r3 7), .int (μ_6.1 2 r1 7)] μ_6 (pI q_11) ∧ ∀ (v_15 : Int32) (μ_14 : gMem), q_11 v_15 μ_14 → ((v_15 = 0) → (1 < d) ∧ ((((ivl (μ_14.1 6 r3 5)) = 0) → ((¬ (μ_14.1 6 r3 5) = (31 : Int32)) → ((¬ (μ_14.1 6 r3 5) = (32 : Int32)) → ∀ μ_25 : gMem, μ_25 = gsI μ_14 2 r1 7 ((μ_14.1 2 r1 7) + (1 : Int32)) → ∃ (d_26 : Nat) (q_27 : gMem → Prop), d_26 < d ∧ Ctr l D d_26 yX1_takeSign cX1_takeSign 3 none [.ref (D.2.2 1 r0), .int (μ_25.1 6 r3 5), .ref (D.2.2 2 r1)] μ_25 (pV q_27) ∧ ∀ (μ_30 : gMem), q_27 μ_30 → pt_X1_readInto_2 l D d q Γ r0 r1 x2 r3 x4 μ_30) ∧ (((μ_14.1 6 r3 5) = (32 : Int32)) → ∃ (d_33 : Nat) (q_34 : gMem → Prop), d_33 < d ∧ Ctr l D d_33 yX1_takeClose cX1_takeClose 2 none [.ref (D.2.2 1 r0), .ref (D.2.2 2 r1)] μ_14 (pV q_34) ∧ ∀ (μ_37 : gMem), q_34 μ_37 → pt_X1_readInto_2 l D d q Γ r0 r1 x2 r3 x4 μ_37)) ∧ (((μ_14.1 6 r3 5) = (31 : Int32)) → ∃ (d_40 : Nat) (q_41 : gMem → Prop), d_40 < d ∧ Ctr l D d_40 yX1_takeOpen cX1_takeOpen 1 none [.ref (D.2.2 1 r0)] μ_14 (pV q_41) ∧ ∀ (μ_44 : gMem), q_41 μ_44 → pt_X1_readInto_2 l D d q Γ r0 r1 x2 r3 x4 μ_44)) ∧ ((¬ (ivl (μ_14.1 6 r3 5)) = 0) → ∀ μ_47 : gMem, μ_47 = gsI μ_14 2 r1 7 ((μ_14.1 2 r1 7) + (1 : Int32)) → ∃ (d_48 : Nat) (q_49 : gMem → Prop), d_48 < d ∧ Ctr l D d_48 yX2_add cX2_add 3 none [.ref (D.2.2 2 r1), .int (μ_47.1 6 r3 5), .int (μ_47.1 6 r3 7)] μ_47 (pV q_49) ∧ ∀ (μ_52 : gMem), q_49 μ_52 → ∀ μ_55 : gMem, μ_55 = gsI μ_52 1 r0 4 (0 : Int32) → pt_X1_readInto_2 l D d q Γ r0 r1 x2 r3 x4 μ_55))) ∧ ((¬ v_15 = 0) → q (2 : Int32) μ_14)))) : pt_X1_readInto_1 l D d q Γ r0 r1 x2 r3 x4 μ := by
  unfold pt_X1_readInto_1
  refine g_iload dX1_readInto_38 rfl ?_
  refine g_if_le (tgt := 177) dX1_readInto_40 (by decide) (fun c_1 => ?_) (fun c_1 => ?_)
  · have h := h.1 c_1
    exact g_sub [0, 1, 2] rfl h
  · have h := h.2 c_1
    refine g_aload_n dX1_readInto_43 rfl ?_
    refine g_aload_n dX1_readInto_44 rfl ?_
    refine g_gfI fi_1_44 hr3 dX1_readInto_45 ?_
    obtain ⟨d_2, q_3, hd_4, hc_5, h⟩ := h
    refine g_cV ca_X1_47 ob_1 hc_5 hd_4 (by decide) hr0 rfl rfl (by first | exact Nat.le_of_ble_eq_true rfl | decide) dX1_readInto_48 (kI (fun v_7 μ_6 hq_8 => ?_))
    have h := h v_7 μ_6 hq_8
    refine g_if_eq (tgt := 177) dX1_readInto_51 (by decide) (fun c_9 => ?_) (fun c_9 => ?_)
    · have h := h.1 c_9
      exact g_sub [0, 1, 2] rfl h
    · have h := h.2 c_9
      refine g_aload_n dX1_readInto_54 rfl ?_
      refine g_aload_n dX1_readInto_55 rfl ?_
      refine g_gfI fi_1_44 hr3 dX1_readInto_56 ?_
      refine g_aload_n dX1_readInto_59 rfl ?_
      refine g_gfI fi_1_51 hr3 dX1_readInto_60 ?_
      refine g_aload_n dX1_readInto_63 rfl ?_
      refine g_gfI fi_1_54 hr1 dX1_readInto_64 ?_
      obtain ⟨d_10, q_11, hd_12, hc_13, h⟩ := h
      refine g_cV ca_X1_57 ob_1 hc_13 hd_12 (by decide) hr0 rfl rfl (by first | exact Nat.le_of_ble_eq_true rfl | decide) dX1_readInto_67 (kI (fun v_15 μ_14 hq_16 => ?_))
      have h := h v_15 μ_14 hq_16
      refine g_if_eq (tgt := 75) dX1_readInto_70 (by decide) (fun c_17 => ?_) (fun c_17 => ?_)
      · have h := h.1 c_17
        refine g_aload_n dX1_readInto_75 rfl ?_
        refine g_gfI fi_1_44 hr3 dX1_readInto_76 ?_
        obtain ⟨hd_18, h⟩ := h
        refine g_callS ca_X1_61 (c_X1_isValue (d := 1) (Nat.le_refl _) ) hd_18 (by decide) rfl rfl (by first | exact Nat.le_of_ble_eq_true rfl | decide) dX1_readInto_79 (kI (fun v_19 μ_20 hq_21 => ?_))
        obtain ⟨ev_19, eμ_20⟩ := hq_21
        subst ev_19
        refine g_mem eμ_20 ?_
        refine g_if_eq (tgt := 115) dX1_readInto_82 (by decide) (fun c_22 => ?_) (fun c_22 => ?_)
        · have h := h.1 c_22
          refine g_aload_n dX1_readInto_115 rfl ?_
          refine g_gfI fi_1_44 hr3 dX1_readInto_116 ?_
          refine g_bipush (31 : Int32) dX1_readInto_119 rfl ?_
          refine g_icmp_ne (tgt := 131) dX1_readInto_121 (by decide) (fun c_23 => ?_) (fun c_23 => ?_)
          · have h := h.1 c_23
            refine g_aload_n dX1_readInto_131 rfl ?_
            refine g_gfI fi_1_44 hr3 dX1_readInto_132 ?_
            refine g_bipush (32 : Int32) dX1_readInto_135 rfl ?_
            refine g_icmp_ne (tgt := 148) dX1_readInto_137 (by decide) (fun c_24 => ?_) (fun c_24 => ?_)
            · have h := h.1 c_24
              refine g_aload_n dX1_readInto_148 rfl ?_
              refine g_dup dX1_readInto_149 rfl ?_
              refine g_gfI fi_1_54 hr1 dX1_readInto_150 ?_
              refine g_iconst (1 : Int32) dX1_readInto_153 rfl ?_
              refine g_iadd dX1_readInto_154 ?_
              refine g_pfI fi_1_54 hr1 rfl rfl dX1_readInto_155 ?_
              obtain ⟨μ_25, eμ_25⟩ : ∃ z : gMem, z = gsI μ_14 2 r1 7 ((μ_14.1 2 r1 7) + (1 : Int32)) := ⟨_, rfl⟩
              have h := h μ_25 eμ_25
              refine g_mem eμ_25.symm ?_
              refine g_aload_n dX1_readInto_158 rfl ?_
              refine g_aload_n dX1_readInto_159 rfl ?_
              refine g_gfI fi_1_44 hr3 dX1_readInto_160 ?_
              refine g_aload_n dX1_readInto_163 rfl ?_
              obtain ⟨d_26, q_27, hd_28, hc_29, h⟩ := h
              refine g_cV ca_X1_75 ob_1 hc_29 hd_28 (by decide) hr0 rfl rfl (by first | exact Nat.le_of_ble_eq_true rfl | decide) dX1_readInto_164 (kV (fun μ_30 hq_32 => ?_))
              have h := h μ_30 hq_32
              exact g_sub [0, 1, 2, 3, 4] rfl h
            · have h := h.2 c_24
              refine g_aload_n dX1_readInto_140 rfl ?_
              refine g_aload_n dX1_readInto_141 rfl ?_
              obtain ⟨d_33, q_34, hd_35, hc_36, h⟩ := h
              refine g_cV ca_X1_71 ob_1 hc_36 hd_35 (by decide) hr0 rfl rfl (by first | exact Nat.le_of_ble_eq_true rfl | decide) dX1_readInto_142 (kV (fun μ_37 hq_39 => ?_))
              have h := h μ_37 hq_39
              refine g_goto (tgt := 167) dX1_readInto_145 (by decide) ?_
              exact g_sub [0, 1, 2, 3, 4] rfl h
          · have h := h.2 c_23
            refine g_aload_n dX1_readInto_124 rfl ?_
            obtain ⟨d_40, q_41, hd_42, hc_43, h⟩ := h
            refine g_cV ca_X1_68 ob_1 hc_43 hd_42 (by decide) hr0 rfl rfl (by first | exact Nat.le_of_ble_eq_true rfl | decide) dX1_readInto_125 (kV (fun μ_44 hq_46 => ?_))
            have h := h μ_44 hq_46
            refine g_goto (tgt := 167) dX1_readInto_128 (by decide) ?_
            exact g_sub [0, 1, 2, 3, 4] rfl h
        · have h := h.2 c_22
          refine g_aload_n dX1_readInto_85 rfl ?_
          refine g_dup dX1_readInto_86 rfl ?_
          refine g_gfI fi_1_54 hr1 dX1_readInto_87 ?_
          refine g_iconst (1 : Int32) dX1_readInto_90 rfl ?_
          refine g_iadd dX1_readInto_91 ?_
          refine g_pfI fi_1_54 hr1 rfl rfl dX1_readInto_92 ?_
          obtain ⟨μ_47, eμ_47⟩ : ∃ z : gMem, z = gsI μ_14 2 r1 7 ((μ_14.1 2 r1 7) + (1 : Int32)) := ⟨_, rfl⟩
          have h := h μ_47 eμ_47
          refine g_mem eμ_47.symm ?_
          refine g_aload_n dX1_readInto_95 rfl ?_
          refine g_aload_n dX1_readInto_96 rfl ?_
          refine g_gfI fi_1_44 hr3 dX1_readInto_97 ?_
          refine g_aload_n dX1_readInto_100 rfl ?_
          refine g_gfI fi_1_51 hr3 dX1_readInto_101 ?_
          obtain ⟨d_48, q_49, hd_50, hc_51, h⟩ := h
          refine g_cV ca_X1_64 ob_2 hc_51 hd_50 (by decide) hr1 rfl rfl (by first | exact Nat.le_of_ble_eq_true rfl | decide) dX1_readInto_104 (kV (fun μ_52 hq_54 => ?_))
          have h := h μ_52 hq_54
          refine g_aload_n dX1_readInto_107 rfl ?_
          refine g_iconst (0 : Int32) dX1_readInto_108 rfl ?_
          refine g_pfI fi_1_26 hr0 rfl rfl dX1_readInto_109 ?_
          obtain ⟨μ_55, eμ_55⟩ : ∃ z : gMem, z = gsI μ_52 1 r0 4 (0 : Int32) := ⟨_, rfl⟩
          have h := h μ_55 eμ_55
          refine g_mem eμ_55.symm ?_
          refine g_goto (tgt := 167) dX1_readInto_112 (by decide) ?_
          exact g_sub [0, 1, 2, 3, 4] rfl h
      · have h := h.2 c_17
        refine g_iconst (2 : Int32) dX1_readInto_73 rfl ?_
        exact g_iret dX1_readInto_74 rfl rfl ⟨_, rfl, h⟩
set_option maxRecDepth 20000 in
set_option maxHeartbeats 4000000 in
theorem bl_X1_readInto_2 {l : Launch} {D : gD} {d : Nat} {q : Int32 → gMem → Prop} {Γ : gC} {r0 : Nat} {r1 : Nat} {x2 : Int32} {r3 : Nat} {x4 : Int32} {μ : gMem} (hr0 : r0 < 1) (hr1 : r1 < 2) (hr3 : r3 < 1) (h : ∃ (d_1 : Nat) (q_2 : gMem → Prop), d_1 < d ∧ Ctr l D d_1 yX6_next cX6_next 1 none [.ref (D.2.2 6 r3)] μ (pV q_2) ∧ ∀ (μ_5 : gMem), q_2 μ_5 → ∀ x4_8 : Int32, x4_8 = x4 + (-1 : Int32) → pt_X1_readInto_1 l D d q Γ r0 r1 x2 r3 x4_8 μ_5) : pt_X1_readInto_2 l D d q Γ r0 r1 x2 r3 x4 μ := by
  unfold pt_X1_readInto_2
  refine g_aload_n dX1_readInto_167 rfl ?_
  obtain ⟨d_1, q_2, hd_3, hc_4, h⟩ := h
  refine g_cV ca_X1_79 ob_6 hc_4 hd_3 (by decide) hr3 rfl rfl (by first | exact Nat.le_of_ble_eq_true rfl | decide) dX1_readInto_168 (kV (fun μ_5 hq_7 => ?_))
  have h := h μ_5 hq_7
  refine g_iinc dX1_readInto_171 rfl (by decide) (fun x4_8 ex4_8 => g_sub (lv' := [(0, .ref (D.2.2 1 r0)), (1, .ref (D.2.2 2 r1)), (2, .int x2), (3, .ref (D.2.2 6 r3)), (4, .int x4_8)]) [1, 2, 3, 4, 0] rfl ?_)
  have h := h x4_8 ex4_8
  refine g_goto (tgt := 38) dX1_readInto_174 (by decide) ?_
  exact g_sub [0, 1, 2, 3, 4] rfl h
set_option maxRecDepth 20000 in
set_option maxHeartbeats 4000000 in
theorem bl_X1_readInto_3 {l : Launch} {D : gD} {d : Nat} {q : Int32 → gMem → Prop} {Γ : gC} {r0 : Nat} {r1 : Nat} {x2 : Int32} {μ : gMem} (hr0 : r0 < 1) (hr1 : r1 < 2) (h : ((¬ (μ.1 1 r0 4) = 0) → q (1 : Int32) μ) ∧ (((μ.1 1 r0 4) = 0) → (((μ.1 1 r0 3) ≤ 0) → ∃ (d_3 : Nat) (q_4 : gMem → Prop), d_3 < d ∧ Ctr l D d_3 yX1_release cX1_release 3 none [.ref (D.2.2 1 r0), .ref (D.2.2 2 r1), .int (1 : Int32)] μ (pV q_4) ∧ ∀ (μ_7 : gMem), q_4 μ_7 → ∃ (d_10 : Nat) (q_11 : gMem → Prop), d_10 < d ∧ Ctr l D d_10 yX2_end cX2_end 2 none [.ref (D.2.2 2 r1), .int x2] μ_7 (pV q_11) ∧ ∀ (μ_14 : gMem), q_11 μ_14 → q (0 : Int32) μ_14) ∧ ((¬ (μ.1 1 r0 3) ≤ 0) → q (1 : Int32) μ))) : pt_X1_readInto_3 l D d q Γ r0 r1 x2 μ := by
  unfold pt_X1_readInto_3
  refine g_aload_n dX1_readInto_177 rfl ?_
  refine g_gfI fi_1_26 hr0 dX1_readInto_178 ?_
  refine g_if_ne (tgt := 191) dX1_readInto_181 (by decide) (fun c_1 => ?_) (fun c_1 => ?_)
  · have h := h.1 c_1
    refine g_iconst (1 : Int32) dX1_readInto_191 rfl ?_
    exact g_iret dX1_readInto_192 rfl rfl ⟨_, rfl, h⟩
  · have h := h.2 c_1
    refine g_aload_n dX1_readInto_184 rfl ?_
    refine g_gfI fi_1_23 hr0 dX1_readInto_185 ?_
    refine g_if_le (tgt := 193) dX1_readInto_188 (by decide) (fun c_2 => ?_) (fun c_2 => ?_)
    · have h := h.1 c_2
      refine g_aload_n dX1_readInto_193 rfl ?_
      refine g_aload_n dX1_readInto_194 rfl ?_
      refine g_iconst (1 : Int32) dX1_readInto_195 rfl ?_
      obtain ⟨d_3, q_4, hd_5, hc_6, h⟩ := h
      refine g_cV ca_X1_82 ob_1 hc_6 hd_5 (by decide) hr0 rfl rfl (by first | exact Nat.le_of_ble_eq_true rfl | decide) dX1_readInto_196 (kV (fun μ_7 hq_9 => ?_))
      have h := h μ_7 hq_9
      refine g_aload_n dX1_readInto_199 rfl ?_
      refine g_iload_n dX1_readInto_200 rfl ?_
      obtain ⟨d_10, q_11, hd_12, hc_13, h⟩ := h
      refine g_cV ca_X1_86 ob_2 hc_13 hd_12 (by decide) hr1 rfl rfl (by first | exact Nat.le_of_ble_eq_true rfl | decide) dX1_readInto_201 (kV (fun μ_14 hq_16 => ?_))
      have h := h μ_14 hq_16
      refine g_iconst (0 : Int32) dX1_readInto_204 rfl ?_
      exact g_iret dX1_readInto_205 rfl rfl ⟨_, rfl, h⟩
    · have h := h.2 c_2
      refine g_iconst (1 : Int32) dX1_readInto_191 rfl ?_
      exact g_iret dX1_readInto_192 rfl rfl ⟨_, rfl, h⟩
theorem en_X1_readInto {l : Launch} {D : gD} {d : Nat} {q : Int32 → gMem → Prop} {r0 : Nat} {r1 : Nat} {x2 : Int32} {r3 : Nat} {μ : gMem} (h : ∀ Γ : gC, pt_X1_readInto_0 l D d q Γ r0 r1 x2 r3 μ) : Ctr l D d yX1_readInto cX1_readInto 5 (some .int) [.ref (D.2.2 1 r0), .ref (D.2.2 2 r1), .int x2, .ref (D.2.2 6 r3)] μ (pI q) :=
  Ctr_of rfl (by decide) (Nat.le_of_ble_eq_true rfl) (fun Γ => g_sub [0, 1, 2, 3] rfl (h Γ))
def pt_X1_canStand_0 (l : Launch) (D : gD) (d : Nat) (q : Int32 → gMem → Prop) (Γ : gC) (r0 : Nat) (x1 : Int32) (μ : gMem) : Prop := G l D RX1 cX1_canStand 2 (some .boolean) d (pI q) Γ 0 [(0, .ref (D.2.2 1 r0)), (1, .int x1)] [] μ
def pt_X1_canStand_1 (l : Launch) (D : gD) (d : Nat) (q : Int32 → gMem → Prop) (Γ : gC)  (μ : gMem) : Prop := G l D RX1 cX1_canStand 2 (some .boolean) d (pI q) Γ 33 [] [] μ
def pt_X1_canStand_2 (l : Launch) (D : gD) (d : Nat) (q : Int32 → gMem → Prop) (Γ : gC)  (μ : gMem) : Prop := G l D RX1 cX1_canStand 2 (some .boolean) d (pI q) Γ 100 [] [] μ
set_option maxRecDepth 20000 in
set_option maxHeartbeats 4000000 in
theorem bl_X1_canStand_0 {l : Launch} {D : gD} {d : Nat} {q : Int32 → gMem → Prop} {Γ : gC} {r0 : Nat} {x1 : Int32} {μ : gMem} (hr0 : r0 < 1) (h : (((μ.1 1 r0 4) = 0) → ((¬ x1 = (32 : Int32)) → ((x1 = (11 : Int32)) → pt_X1_canStand_2 l D d q Γ  μ) ∧ ((¬ x1 = (11 : Int32)) → ((x1 = (12 : Int32)) → pt_X1_canStand_2 l D d q Γ  μ) ∧ ((¬ x1 = (12 : Int32)) → (0 < d) ∧ (((¬ (iw x1 (27 : Int32) (30 : Int32)) = 0) → pt_X1_canStand_2 l D d q Γ  μ) ∧ (((iw x1 (27 : Int32) (30 : Int32)) = 0) → (1 < d) ∧ ((((iw x1 (21 : Int32) (26 : Int32)) = 0) → q (0 : Int32) μ) ∧ ((¬ (iw x1 (21 : Int32) (26 : Int32)) = 0) → ∃ j_15 : Nat, j_15 < 9 ∧ μ.1 1 r0 3 = nI j_15 ∧ (((¬ (μ.1 130 r0 j_15) = 0) → q (0 : Int32) μ) ∧ (((μ.1 130 r0 j_15) = 0) → pt_X1_canStand_2 l D d q Γ  μ))))))))) ∧ ((x1 = (32 : Int32)) → (((μ.1 1 r0 3) ≤ 0) → q (0 : Int32) μ) ∧ ((¬ (μ.1 1 r0 3) ≤ 0) → q (1 : Int32) μ))) ∧ ((¬ (μ.1 1 r0 4) = 0) → (1 < d) ∧ (((¬ (ivl x1) = 0) → pt_X1_canStand_1 l D d q Γ  μ) ∧ (((ivl x1) = 0) → ((x1 = (31 : Int32)) → pt_X1_canStand_1 l D d q Γ  μ) ∧ ((¬ x1 = (31 : Int32)) → ((¬ x1 = (13 : Int32)) → q (0 : Int32) μ) ∧ ((x1 = (13 : Int32)) → (((μ.1 1 r0 5) = 0) → q (0 : Int32) μ) ∧ ((¬ (μ.1 1 r0 5) = 0) → pt_X1_canStand_1 l D d q Γ  μ))))))) : pt_X1_canStand_0 l D d q Γ r0 x1 μ := by
  unfold pt_X1_canStand_0
  refine g_aload_n dX1_canStand_0 rfl ?_
  refine g_gfI fi_1_26 hr0 dX1_canStand_1 ?_
  refine g_if_eq (tgt := 39) dX1_canStand_4 (by decide) (fun c_1 => ?_) (fun c_1 => ?_)
  · have h := h.1 c_1
    refine g_iload_n dX1_canStand_39 rfl ?_
    refine g_bipush (32 : Int32) dX1_canStand_40 rfl ?_
    refine g_icmp_ne (tgt := 58) dX1_canStand_42 (by decide) (fun c_2 => ?_) (fun c_2 => ?_)
    · have h := h.1 c_2
      refine g_iload_n dX1_canStand_58 rfl ?_
      refine g_bipush (11 : Int32) dX1_canStand_59 rfl ?_
      refine g_icmp_eq (tgt := 100) dX1_canStand_61 (by decide) (fun c_3 => ?_) (fun c_3 => ?_)
      · have h := h.1 c_3
        exact g_sub [] rfl h
      · have h := h.2 c_3
        refine g_iload_n dX1_canStand_64 rfl ?_
        refine g_bipush (12 : Int32) dX1_canStand_65 rfl ?_
        refine g_icmp_eq (tgt := 100) dX1_canStand_67 (by decide) (fun c_4 => ?_) (fun c_4 => ?_)
        · have h := h.1 c_4
          exact g_sub [] rfl h
        · have h := h.2 c_4
          refine g_iload_n dX1_canStand_70 rfl ?_
          refine g_bipush (27 : Int32) dX1_canStand_71 rfl ?_
          refine g_bipush (30 : Int32) dX1_canStand_73 rfl ?_
          obtain ⟨hd_5, h⟩ := h
          refine g_callN ca_X1_89 (c_X9_isWithin (d := 0) (Nat.le_refl _) ) hd_5 (by decide) rfl rfl (by first | exact Nat.le_of_ble_eq_true rfl | decide) dX1_canStand_75 (kI (fun v_6 μ_7 hq_8 => ?_))
          obtain ⟨ev_6, eμ_7⟩ := hq_8
          subst ev_6
          refine g_mem eμ_7 ?_
          refine g_if_ne (tgt := 100) dX1_canStand_78 (by decide) (fun c_9 => ?_) (fun c_9 => ?_)
          · have h := h.1 c_9
            exact g_sub [] rfl h
          · have h := h.2 c_9
            refine g_iload_n dX1_canStand_81 rfl ?_
            obtain ⟨hd_10, h⟩ := h
            refine g_callS ca_X1_92 (c_X1_isComparison (d := 1) (Nat.le_refl _) ) hd_10 (by decide) rfl rfl (by first | exact Nat.le_of_ble_eq_true rfl | decide) dX1_canStand_82 (kI (fun v_11 μ_12 hq_13 => ?_))
            obtain ⟨ev_11, eμ_12⟩ := hq_13
            subst ev_11
            refine g_mem eμ_12 ?_
            refine g_if_eq (tgt := 104) dX1_canStand_85 (by decide) (fun c_14 => ?_) (fun c_14 => ?_)
            · have h := h.1 c_14
              refine g_iconst (0 : Int32) dX1_canStand_104 rfl ?_
              exact g_iret dX1_canStand_105 rfl rfl ⟨_, rfl, h⟩
            · have h := h.2 c_14
              refine g_aload_n dX1_canStand_88 rfl ?_
              refine g_gfR fl_1_15 rfl hr0 dX1_canStand_89 ?_
              refine g_aload_n dX1_canStand_92 rfl ?_
              refine g_gfI fi_1_23 hr0 dX1_canStand_93 ?_
              obtain ⟨j_15, hj_15, ej_15, h⟩ := h
              refine g_zald j_15 hr0 rfl hj_15 (by decide) ej_15 dX1_canStand_96 ?_
              refine g_if_ne (tgt := 104) dX1_canStand_97 (by decide) (fun c_16 => ?_) (fun c_16 => ?_)
              · have h := h.1 c_16
                refine g_iconst (0 : Int32) dX1_canStand_104 rfl ?_
                exact g_iret dX1_canStand_105 rfl rfl ⟨_, rfl, h⟩
              · have h := h.2 c_16
                exact g_sub [] rfl h
    · have h := h.2 c_2
      refine g_aload_n dX1_canStand_45 rfl ?_
      refine g_gfI fi_1_23 hr0 dX1_canStand_46 ?_
      refine g_if_le (tgt := 56) dX1_canStand_49 (by decide) (fun c_17 => ?_) (fun c_17 => ?_)
      · have h := h.1 c_17
        refine g_iconst (0 : Int32) dX1_canStand_56 rfl ?_
        exact g_iret dX1_canStand_57 rfl rfl ⟨_, rfl, h⟩
      · have h := h.2 c_17
        refine g_iconst (1 : Int32) dX1_canStand_52 rfl ?_
        refine g_goto (tgt := 57) dX1_canStand_53 (by decide) ?_
        exact g_iret dX1_canStand_57 rfl rfl ⟨_, rfl, h⟩
  · have h := h.2 c_1
    refine g_iload_n dX1_canStand_7 rfl ?_
    obtain ⟨hd_18, h⟩ := h
    refine g_callS ca_X1_61 (c_X1_isValue (d := 1) (Nat.le_refl _) ) hd_18 (by decide) rfl rfl (by first | exact Nat.le_of_ble_eq_true rfl | decide) dX1_canStand_8 (kI (fun v_19 μ_20 hq_21 => ?_))
    obtain ⟨ev_19, eμ_20⟩ := hq_21
    subst ev_19
    refine g_mem eμ_20 ?_
    refine g_if_ne (tgt := 33) dX1_canStand_11 (by decide) (fun c_22 => ?_) (fun c_22 => ?_)
    · have h := h.1 c_22
      exact g_sub [] rfl h
    · have h := h.2 c_22
      refine g_iload_n dX1_canStand_14 rfl ?_
      refine g_bipush (31 : Int32) dX1_canStand_15 rfl ?_
      refine g_icmp_eq (tgt := 33) dX1_canStand_17 (by decide) (fun c_23 => ?_) (fun c_23 => ?_)
      · have h := h.1 c_23
        exact g_sub [] rfl h
      · have h := h.2 c_23
        refine g_iload_n dX1_canStand_20 rfl ?_
        refine g_bipush (13 : Int32) dX1_canStand_21 rfl ?_
        refine g_icmp_ne (tgt := 37) dX1_canStand_23 (by decide) (fun c_24 => ?_) (fun c_24 => ?_)
        · have h := h.1 c_24
          refine g_iconst (0 : Int32) dX1_canStand_37 rfl ?_
          exact g_iret dX1_canStand_38 rfl rfl ⟨_, rfl, h⟩
        · have h := h.2 c_24
          refine g_aload_n dX1_canStand_26 rfl ?_
          refine g_gfI fi_1_30 hr0 dX1_canStand_27 ?_
          refine g_if_eq (tgt := 37) dX1_canStand_30 (by decide) (fun c_25 => ?_) (fun c_25 => ?_)
          · have h := h.1 c_25
            refine g_iconst (0 : Int32) dX1_canStand_37 rfl ?_
            exact g_iret dX1_canStand_38 rfl rfl ⟨_, rfl, h⟩
          · have h := h.2 c_25
            exact g_sub [] rfl h
set_option maxRecDepth 20000 in
set_option maxHeartbeats 4000000 in
theorem bl_X1_canStand_1 {l : Launch} {D : gD} {d : Nat} {q : Int32 → gMem → Prop} {Γ : gC}  {μ : gMem}  (h : q (1 : Int32) μ) : pt_X1_canStand_1 l D d q Γ  μ := by
  unfold pt_X1_canStand_1
  refine g_iconst (1 : Int32) dX1_canStand_33 rfl ?_
  refine g_goto (tgt := 38) dX1_canStand_34 (by decide) ?_
  exact g_iret dX1_canStand_38 rfl rfl ⟨_, rfl, h⟩
set_option maxRecDepth 20000 in
set_option maxHeartbeats 4000000 in
theorem bl_X1_canStand_2 {l : Launch} {D : gD} {d : Nat} {q : Int32 → gMem → Prop} {Γ : gC}  {μ : gMem}  (h : q (1 : Int32) μ) : pt_X1_canStand_2 l D d q Γ  μ := by
  unfold pt_X1_canStand_2
  refine g_iconst (1 : Int32) dX1_canStand_100 rfl ?_
  refine g_goto (tgt := 105) dX1_canStand_101 (by decide) ?_
  exact g_iret dX1_canStand_105 rfl rfl ⟨_, rfl, h⟩
theorem en_X1_canStand {l : Launch} {D : gD} {d : Nat} {q : Int32 → gMem → Prop} {r0 : Nat} {x1 : Int32} {μ : gMem} (h : ∀ Γ : gC, pt_X1_canStand_0 l D d q Γ r0 x1 μ) : Ctr l D d yX1_canStand cX1_canStand 2 (some .boolean) [.ref (D.2.2 1 r0), .int x1] μ (pI q) :=
  Ctr_of rfl (by decide) (Nat.le_of_ble_eq_true rfl) (fun Γ => g_sub [0, 1] rfl (h Γ))
def pt_X1_isTooMuch_0 (l : Launch) (D : gD) (d : Nat) (q : Int32 → gMem → Prop) (Γ : gC) (r0 : Nat) (x1 : Int32) (x2 : Int32) (x3 : Int32) (μ : gMem) : Prop := G l D RX1 cX1_isTooMuch 4 (some .boolean) d (pI q) Γ 0 [(0, .ref (D.2.2 1 r0)), (1, .int x1), (2, .int x2), (3, .int x3)] [] μ
def pt_X1_isTooMuch_1 (l : Launch) (D : gD) (d : Nat) (q : Int32 → gMem → Prop) (Γ : gC)  (μ : gMem) : Prop := G l D RX1 cX1_isTooMuch 4 (some .boolean) d (pI q) Γ 46 [] [] μ
set_option maxRecDepth 20000 in
set_option maxHeartbeats 4000000 in
theorem bl_X1_isTooMuch_0 {l : Launch} {D : gD} {d : Nat} {q : Int32 → gMem → Prop} {Γ : gC} {r0 : Nat} {x1 : Int32} {x2 : Int32} {x3 : Int32} {μ : gMem} (hr0 : r0 < 1) (h : ((¬ x1 = (31 : Int32)) → ((x1 = (32 : Int32)) → q (0 : Int32) μ) ∧ ((¬ x1 = (32 : Int32)) → (((64 : Int32) ≤ x3) → pt_X1_isTooMuch_1 l D d q Γ  μ) ∧ ((¬ (64 : Int32) ≤ x3) → ((¬ x1 = (34 : Int32)) → q (0 : Int32) μ) ∧ ((x1 = (34 : Int32)) → ((x2 ≤ (9999 : Int32)) → q (0 : Int32) μ) ∧ ((¬ x2 ≤ (9999 : Int32)) → pt_X1_isTooMuch_1 l D d q Γ  μ))))) ∧ ((x1 = (31 : Int32)) → (((μ.1 1 r0 3) < (8 : Int32)) → q (0 : Int32) μ) ∧ ((¬ (μ.1 1 r0 3) < (8 : Int32)) → q (1 : Int32) μ))) : pt_X1_isTooMuch_0 l D d q Γ r0 x1 x2 x3 μ := by
  unfold pt_X1_isTooMuch_0
  refine g_iload_n dX1_isTooMuch_0 rfl ?_
  refine g_bipush (31 : Int32) dX1_isTooMuch_1 rfl ?_
  refine g_icmp_ne (tgt := 21) dX1_isTooMuch_3 (by decide) (fun c_1 => ?_) (fun c_1 => ?_)
  · have h := h.1 c_1
    refine g_iload_n dX1_isTooMuch_21 rfl ?_
    refine g_bipush (32 : Int32) dX1_isTooMuch_22 rfl ?_
    refine g_icmp_eq (tgt := 50) dX1_isTooMuch_24 (by decide) (fun c_2 => ?_) (fun c_2 => ?_)
    · have h := h.1 c_2
      refine g_iconst (0 : Int32) dX1_isTooMuch_50 rfl ?_
      exact g_iret dX1_isTooMuch_51 rfl rfl ⟨_, rfl, h⟩
    · have h := h.2 c_2
      refine g_iload_n dX1_isTooMuch_27 rfl ?_
      refine g_bipush (64 : Int32) dX1_isTooMuch_28 rfl ?_
      refine g_icmp_ge (tgt := 46) dX1_isTooMuch_30 (by decide) (fun c_3 => ?_) (fun c_3 => ?_)
      · have h := h.1 c_3
        exact g_sub [] rfl h
      · have h := h.2 c_3
        refine g_iload_n dX1_isTooMuch_33 rfl ?_
        refine g_bipush (34 : Int32) dX1_isTooMuch_34 rfl ?_
        refine g_icmp_ne (tgt := 50) dX1_isTooMuch_36 (by decide) (fun c_4 => ?_) (fun c_4 => ?_)
        · have h := h.1 c_4
          refine g_iconst (0 : Int32) dX1_isTooMuch_50 rfl ?_
          exact g_iret dX1_isTooMuch_51 rfl rfl ⟨_, rfl, h⟩
        · have h := h.2 c_4
          refine g_iload_n dX1_isTooMuch_39 rfl ?_
          refine g_sipush (9999 : Int32) dX1_isTooMuch_40 rfl ?_
          refine g_icmp_le (tgt := 50) dX1_isTooMuch_43 (by decide) (fun c_5 => ?_) (fun c_5 => ?_)
          · have h := h.1 c_5
            refine g_iconst (0 : Int32) dX1_isTooMuch_50 rfl ?_
            exact g_iret dX1_isTooMuch_51 rfl rfl ⟨_, rfl, h⟩
          · have h := h.2 c_5
            exact g_sub [] rfl h
  · have h := h.2 c_1
    refine g_aload_n dX1_isTooMuch_6 rfl ?_
    refine g_gfI fi_1_23 hr0 dX1_isTooMuch_7 ?_
    refine g_bipush (8 : Int32) dX1_isTooMuch_10 rfl ?_
    refine g_icmp_lt (tgt := 19) dX1_isTooMuch_12 (by decide) (fun c_6 => ?_) (fun c_6 => ?_)
    · have h := h.1 c_6
      refine g_iconst (0 : Int32) dX1_isTooMuch_19 rfl ?_
      exact g_iret dX1_isTooMuch_20 rfl rfl ⟨_, rfl, h⟩
    · have h := h.2 c_6
      refine g_iconst (1 : Int32) dX1_isTooMuch_15 rfl ?_
      refine g_goto (tgt := 20) dX1_isTooMuch_16 (by decide) ?_
      exact g_iret dX1_isTooMuch_20 rfl rfl ⟨_, rfl, h⟩
set_option maxRecDepth 20000 in
set_option maxHeartbeats 4000000 in
theorem bl_X1_isTooMuch_1 {l : Launch} {D : gD} {d : Nat} {q : Int32 → gMem → Prop} {Γ : gC}  {μ : gMem}  (h : q (1 : Int32) μ) : pt_X1_isTooMuch_1 l D d q Γ  μ := by
  unfold pt_X1_isTooMuch_1
  refine g_iconst (1 : Int32) dX1_isTooMuch_46 rfl ?_
  refine g_goto (tgt := 51) dX1_isTooMuch_47 (by decide) ?_
  exact g_iret dX1_isTooMuch_51 rfl rfl ⟨_, rfl, h⟩
theorem en_X1_isTooMuch {l : Launch} {D : gD} {d : Nat} {q : Int32 → gMem → Prop} {r0 : Nat} {x1 : Int32} {x2 : Int32} {x3 : Int32} {μ : gMem} (h : ∀ Γ : gC, pt_X1_isTooMuch_0 l D d q Γ r0 x1 x2 x3 μ) : Ctr l D d yX1_isTooMuch cX1_isTooMuch 4 (some .boolean) [.ref (D.2.2 1 r0), .int x1, .int x2, .int x3] μ (pI q) :=
  Ctr_of rfl (by decide) (Nat.le_of_ble_eq_true rfl) (fun Γ => g_sub [0, 1, 2, 3] rfl (h Γ))
def pt_X1_takeOpen_0 (l : Launch) (D : gD) (d : Nat) (q : gMem → Prop) (Γ : gC) (r0 : Nat) (μ : gMem) : Prop := G l D RX1 cX1_takeOpen 1 none d (pV q) Γ 0 [(0, .ref (D.2.2 1 r0))] [] μ
set_option maxRecDepth 20000 in
set_option maxHeartbeats 4000000 in
theorem bl_X1_takeOpen_0 {l : Launch} {D : gD} {d : Nat} {q : gMem → Prop} {Γ : gC} {r0 : Nat} {μ : gMem} (hr0 : r0 < 1) (h : ∀ μ_1 : gMem, μ_1 = gsI μ 1 r0 3 ((μ.1 1 r0 3) + (1 : Int32)) → ∃ j_2 : Nat, j_2 < 9 ∧ μ_1.1 1 r0 3 = nI j_2 ∧ (∀ μ_3 : gMem, μ_3 = gsI μ_1 130 r0 j_2 (vp_nar .boolean (0 : Int32)) → ∃ (d_4 : Nat) (q_5 : gMem → Prop), d_4 < d ∧ Ctr l D d_4 yX1_hold cX1_hold 2 none [.ref (D.2.2 1 r0), .int (31 : Int32)] μ_3 (pV q_5) ∧ ∀ (μ_8 : gMem), q_5 μ_8 → ∀ μ_11 : gMem, μ_11 = gsI μ_8 1 r0 5 (1 : Int32) → q μ_11)) : pt_X1_takeOpen_0 l D d q Γ r0 μ := by
  unfold pt_X1_takeOpen_0
  refine g_aload_n dX1_takeOpen_0 rfl ?_
  refine g_dup dX1_takeOpen_1 rfl ?_
  refine g_gfI fi_1_23 hr0 dX1_takeOpen_2 ?_
  refine g_iconst (1 : Int32) dX1_takeOpen_5 rfl ?_
  refine g_iadd dX1_takeOpen_6 ?_
  refine g_pfI fi_1_23 hr0 rfl rfl dX1_takeOpen_7 ?_
  obtain ⟨μ_1, eμ_1⟩ : ∃ z : gMem, z = gsI μ 1 r0 3 ((μ.1 1 r0 3) + (1 : Int32)) := ⟨_, rfl⟩
  have h := h μ_1 eμ_1
  refine g_mem eμ_1.symm ?_
  refine g_aload_n dX1_takeOpen_10 rfl ?_
  refine g_gfR fl_1_15 rfl hr0 dX1_takeOpen_11 ?_
  refine g_aload_n dX1_takeOpen_14 rfl ?_
  refine g_gfI fi_1_23 hr0 dX1_takeOpen_15 ?_
  refine g_iconst (0 : Int32) dX1_takeOpen_18 rfl ?_
  obtain ⟨j_2, hj_2, ej_2, h⟩ := h
  refine g_zast j_2 hr0 rfl hj_2 (by decide) ej_2 dX1_takeOpen_19 ?_
  obtain ⟨μ_3, eμ_3⟩ : ∃ z : gMem, z = gsI μ_1 130 r0 j_2 (vp_nar .boolean (0 : Int32)) := ⟨_, rfl⟩
  have h := h μ_3 eμ_3
  refine g_mem eμ_3.symm ?_
  refine g_aload_n dX1_takeOpen_20 rfl ?_
  refine g_bipush (31 : Int32) dX1_takeOpen_21 rfl ?_
  obtain ⟨d_4, q_5, hd_6, hc_7, h⟩ := h
  refine g_cV ca_X1_95 ob_1 hc_7 hd_6 (by decide) hr0 rfl rfl (by first | exact Nat.le_of_ble_eq_true rfl | decide) dX1_takeOpen_23 (kV (fun μ_8 hq_10 => ?_))
  have h := h μ_8 hq_10
  refine g_aload_n dX1_takeOpen_26 rfl ?_
  refine g_iconst (1 : Int32) dX1_takeOpen_27 rfl ?_
  refine g_pfI fi_1_30 hr0 rfl rfl dX1_takeOpen_28 ?_
  obtain ⟨μ_11, eμ_11⟩ : ∃ z : gMem, z = gsI μ_8 1 r0 5 (1 : Int32) := ⟨_, rfl⟩
  have h := h μ_11 eμ_11
  refine g_mem eμ_11.symm ?_
  exact g_vret dX1_takeOpen_31 rfl ⟨rfl, h⟩
theorem en_X1_takeOpen {l : Launch} {D : gD} {d : Nat} {q : gMem → Prop} {r0 : Nat} {μ : gMem} (h : ∀ Γ : gC, pt_X1_takeOpen_0 l D d q Γ r0 μ) : Ctr l D d yX1_takeOpen cX1_takeOpen 1 none [.ref (D.2.2 1 r0)] μ (pV q) :=
  Ctr_of rfl (by decide) (Nat.le_of_ble_eq_true rfl) (fun Γ => g_sub [0] rfl (h Γ))
def pt_X1_takeClose_0 (l : Launch) (D : gD) (d : Nat) (q : gMem → Prop) (Γ : gC) (r0 : Nat) (r1 : Nat) (μ : gMem) : Prop := G l D RX1 cX1_takeClose 2 none d (pV q) Γ 0 [(0, .ref (D.2.2 1 r0)), (1, .ref (D.2.2 2 r1))] [] μ
set_option maxRecDepth 20000 in
set_option maxHeartbeats 4000000 in
theorem bl_X1_takeClose_0 {l : Launch} {D : gD} {d : Nat} {q : gMem → Prop} {Γ : gC} {r0 : Nat} {r1 : Nat} {μ : gMem} (hr0 : r0 < 1) (hr1 : r1 < 2) (h : ∃ (d_1 : Nat) (q_2 : gMem → Prop), d_1 < d ∧ Ctr l D d_1 yX1_release cX1_release 3 none [.ref (D.2.2 1 r0), .ref (D.2.2 2 r1), .int (1 : Int32)] μ (pV q_2) ∧ ∀ (μ_5 : gMem), q_2 μ_5 → (0 < d) ∧ (∀ μ_9 : gMem, μ_9 = gsI μ_5 1 r0 1 (imax (0 : Int32) ((μ_5.1 1 r0 1) - (1 : Int32))) → ∀ μ_10 : gMem, μ_10 = gsI μ_9 1 r0 3 ((μ_9.1 1 r0 3) - (1 : Int32)) → q μ_10)) : pt_X1_takeClose_0 l D d q Γ r0 r1 μ := by
  unfold pt_X1_takeClose_0
  refine g_aload_n dX1_takeClose_0 rfl ?_
  refine g_aload_n dX1_takeClose_1 rfl ?_
  refine g_iconst (1 : Int32) dX1_takeClose_2 rfl ?_
  obtain ⟨d_1, q_2, hd_3, hc_4, h⟩ := h
  refine g_cV ca_X1_82 ob_1 hc_4 hd_3 (by decide) hr0 rfl rfl (by first | exact Nat.le_of_ble_eq_true rfl | decide) dX1_takeClose_3 (kV (fun μ_5 hq_7 => ?_))
  have h := h μ_5 hq_7
  refine g_aload_n dX1_takeClose_6 rfl ?_
  refine g_iconst (0 : Int32) dX1_takeClose_7 rfl ?_
  refine g_aload_n dX1_takeClose_8 rfl ?_
  refine g_gfI fi_1_19 hr0 dX1_takeClose_9 ?_
  refine g_iconst (1 : Int32) dX1_takeClose_12 rfl ?_
  refine g_isub dX1_takeClose_13 ?_
  obtain ⟨hd_8, h⟩ := h
  refine g_mmax hd_8 mk_X1_98 (by first | exact Nat.le_of_ble_eq_true rfl | decide) dX1_takeClose_14 ?_
  refine g_pfI fi_1_19 hr0 rfl rfl dX1_takeClose_17 ?_
  obtain ⟨μ_9, eμ_9⟩ : ∃ z : gMem, z = gsI μ_5 1 r0 1 (imax (0 : Int32) ((μ_5.1 1 r0 1) - (1 : Int32))) := ⟨_, rfl⟩
  have h := h μ_9 eμ_9
  refine g_mem eμ_9.symm ?_
  refine g_aload_n dX1_takeClose_20 rfl ?_
  refine g_dup dX1_takeClose_21 rfl ?_
  refine g_gfI fi_1_23 hr0 dX1_takeClose_22 ?_
  refine g_iconst (1 : Int32) dX1_takeClose_25 rfl ?_
  refine g_isub dX1_takeClose_26 ?_
  refine g_pfI fi_1_23 hr0 rfl rfl dX1_takeClose_27 ?_
  obtain ⟨μ_10, eμ_10⟩ : ∃ z : gMem, z = gsI μ_9 1 r0 3 ((μ_9.1 1 r0 3) - (1 : Int32)) := ⟨_, rfl⟩
  have h := h μ_10 eμ_10
  refine g_mem eμ_10.symm ?_
  exact g_vret dX1_takeClose_30 rfl ⟨rfl, h⟩
theorem en_X1_takeClose {l : Launch} {D : gD} {d : Nat} {q : gMem → Prop} {r0 : Nat} {r1 : Nat} {μ : gMem} (h : ∀ Γ : gC, pt_X1_takeClose_0 l D d q Γ r0 r1 μ) : Ctr l D d yX1_takeClose cX1_takeClose 2 none [.ref (D.2.2 1 r0), .ref (D.2.2 2 r1)] μ (pV q) :=
  Ctr_of rfl (by decide) (Nat.le_of_ble_eq_true rfl) (fun Γ => g_sub [0, 1] rfl (h Γ))
def pt_X1_takeSign_0 (l : Launch) (D : gD) (d : Nat) (q : gMem → Prop) (Γ : gC) (r0 : Nat) (x1 : Int32) (r2 : Nat) (μ : gMem) : Prop := G l D RX1 cX1_takeSign 3 none d (pV q) Γ 0 [(0, .ref (D.2.2 1 r0)), (1, .int x1), (2, .ref (D.2.2 2 r2))] [] μ
def pt_X1_takeSign_1 (l : Launch) (D : gD) (d : Nat) (q : gMem → Prop) (Γ : gC) (r0 : Nat) (x1 : Int32) (μ : gMem) : Prop := G l D RX1 cX1_takeSign 3 none d (pV q) Γ 15 [(0, .ref (D.2.2 1 r0)), (1, .int x1)] [] μ
def pt_X1_takeSign_2 (l : Launch) (D : gD) (d : Nat) (q : gMem → Prop) (Γ : gC) (r0 : Nat) (x1 : Int32) (rs0 : Nat) (xs1 : Int32) (μ : gMem) : Prop := G l D RX1 cX1_takeSign 3 none d (pV q) Γ 43 [(0, .ref (D.2.2 1 r0)), (1, .int x1)] [.int xs1, .ref (D.2.2 1 rs0)] μ
set_option maxRecDepth 20000 in
set_option maxHeartbeats 4000000 in
theorem bl_X1_takeSign_0 {l : Launch} {D : gD} {d : Nat} {q : gMem → Prop} {Γ : gC} {r0 : Nat} {x1 : Int32} {r2 : Nat} {μ : gMem} (hr0 : r0 < 1) (hr2 : r2 < 2) (h : ((x1 = (13 : Int32)) → pt_X1_takeSign_1 l D d q Γ r0 x1 μ) ∧ ((¬ x1 = (13 : Int32)) → (0 < d) ∧ (∃ (d_6 : Nat) (q_7 : gMem → Prop), d_6 < d ∧ Ctr l D d_6 yX1_release cX1_release 3 none [.ref (D.2.2 1 r0), .ref (D.2.2 2 r2), .int (strn x1)] μ (pV q_7) ∧ ∀ (μ_10 : gMem), q_7 μ_10 → pt_X1_takeSign_1 l D d q Γ r0 x1 μ_10))) : pt_X1_takeSign_0 l D d q Γ r0 x1 r2 μ := by
  unfold pt_X1_takeSign_0
  refine g_iload_n dX1_takeSign_0 rfl ?_
  refine g_bipush (13 : Int32) dX1_takeSign_1 rfl ?_
  refine g_icmp_eq (tgt := 15) dX1_takeSign_3 (by decide) (fun c_1 => ?_) (fun c_1 => ?_)
  · have h := h.1 c_1
    exact g_sub [0, 1] rfl h
  · have h := h.2 c_1
    refine g_aload_n dX1_takeSign_6 rfl ?_
    refine g_aload_n dX1_takeSign_7 rfl ?_
    refine g_iload_n dX1_takeSign_8 rfl ?_
    obtain ⟨hd_2, h⟩ := h
    refine g_callS ca_X1_104 (c_X1_strength (d := 0) (Nat.le_refl _) ) hd_2 (by decide) rfl rfl (by first | exact Nat.le_of_ble_eq_true rfl | decide) dX1_takeSign_9 (kI (fun v_3 μ_4 hq_5 => ?_))
    obtain ⟨ev_3, eμ_4⟩ := hq_5
    subst ev_3
    refine g_mem eμ_4 ?_
    obtain ⟨d_6, q_7, hd_8, hc_9, h⟩ := h
    refine g_cV ca_X1_82 ob_1 hc_9 hd_8 (by decide) hr0 rfl rfl (by first | exact Nat.le_of_ble_eq_true rfl | decide) dX1_takeSign_12 (kV (fun μ_10 hq_12 => ?_))
    have h := h μ_10 hq_12
    exact g_sub [0, 1] rfl h
set_option maxRecDepth 20000 in
set_option maxHeartbeats 4000000 in
theorem bl_X1_takeSign_1 {l : Launch} {D : gD} {d : Nat} {q : gMem → Prop} {Γ : gC} {r0 : Nat} {x1 : Int32} {μ : gMem} (hr0 : r0 < 1) (h : ∃ (d_1 : Nat) (q_2 : gMem → Prop), d_1 < d ∧ Ctr l D d_1 yX1_hold cX1_hold 2 none [.ref (D.2.2 1 r0), .int x1] μ (pV q_2) ∧ ∀ (μ_5 : gMem), q_2 μ_5 → ∀ μ_8 : gMem, μ_8 = gsI μ_5 1 r0 4 (1 : Int32) → (0 < d) ∧ ((0 < d) ∧ ((((strn (13 : Int32)) < (strn x1)) → pt_X1_takeSign_2 l D d q Γ r0 x1 r0 (0 : Int32) μ_8) ∧ ((¬ (strn (13 : Int32)) < (strn x1)) → pt_X1_takeSign_2 l D d q Γ r0 x1 r0 (1 : Int32) μ_8)))) : pt_X1_takeSign_1 l D d q Γ r0 x1 μ := by
  unfold pt_X1_takeSign_1
  refine g_aload_n dX1_takeSign_15 rfl ?_
  refine g_iload_n dX1_takeSign_16 rfl ?_
  obtain ⟨d_1, q_2, hd_3, hc_4, h⟩ := h
  refine g_cV ca_X1_95 ob_1 hc_4 hd_3 (by decide) hr0 rfl rfl (by first | exact Nat.le_of_ble_eq_true rfl | decide) dX1_takeSign_17 (kV (fun μ_5 hq_7 => ?_))
  have h := h μ_5 hq_7
  refine g_aload_n dX1_takeSign_20 rfl ?_
  refine g_iconst (1 : Int32) dX1_takeSign_21 rfl ?_
  refine g_pfI fi_1_26 hr0 rfl rfl dX1_takeSign_22 ?_
  obtain ⟨μ_8, eμ_8⟩ : ∃ z : gMem, z = gsI μ_5 1 r0 4 (1 : Int32) := ⟨_, rfl⟩
  have h := h μ_8 eμ_8
  refine g_mem eμ_8.symm ?_
  refine g_aload_n dX1_takeSign_25 rfl ?_
  refine g_iload_n dX1_takeSign_26 rfl ?_
  obtain ⟨hd_9, h⟩ := h
  refine g_callS ca_X1_104 (c_X1_strength (d := 0) (Nat.le_refl _) ) hd_9 (by decide) rfl rfl (by first | exact Nat.le_of_ble_eq_true rfl | decide) dX1_takeSign_27 (kI (fun v_10 μ_11 hq_12 => ?_))
  obtain ⟨ev_10, eμ_11⟩ := hq_12
  subst ev_10
  refine g_mem eμ_11 ?_
  refine g_bipush (13 : Int32) dX1_takeSign_30 rfl ?_
  obtain ⟨hd_13, h⟩ := h
  refine g_callS ca_X1_104 (c_X1_strength (d := 0) (Nat.le_refl _) ) hd_13 (by decide) rfl rfl (by first | exact Nat.le_of_ble_eq_true rfl | decide) dX1_takeSign_32 (kI (fun v_14 μ_15 hq_16 => ?_))
  obtain ⟨ev_14, eμ_15⟩ := hq_16
  subst ev_14
  refine g_mem eμ_15 ?_
  refine g_icmp_gt (tgt := 42) dX1_takeSign_35 (by decide) (fun c_17 => ?_) (fun c_17 => ?_)
  · have h := h.1 c_17
    refine g_iconst (0 : Int32) dX1_takeSign_42 rfl ?_
    exact g_sub [0, 1] rfl h
  · have h := h.2 c_17
    refine g_iconst (1 : Int32) dX1_takeSign_38 rfl ?_
    refine g_goto (tgt := 43) dX1_takeSign_39 (by decide) ?_
    exact g_sub [0, 1] rfl h
set_option maxRecDepth 20000 in
set_option maxHeartbeats 4000000 in
theorem bl_X1_takeSign_2 {l : Launch} {D : gD} {d : Nat} {q : gMem → Prop} {Γ : gC} {r0 : Nat} {x1 : Int32} {rs0 : Nat} {xs1 : Int32} {μ : gMem} (hr0 : r0 < 1) (hrs0 : rs0 < 1) (h : (xs1 = 0 ∨ xs1 = 1) ∧ (∀ μ_1 : gMem, μ_1 = gsI μ 1 rs0 5 xs1 → (1 < d) ∧ ((((iw x1 (21 : Int32) (26 : Int32)) = 0) → (((μ_1.1 1 r0 5) = 0) → q μ_1) ∧ ((¬ (μ_1.1 1 r0 5) = 0) → ∃ j_9 : Nat, j_9 < 9 ∧ μ_1.1 1 r0 3 = nI j_9 ∧ (∀ μ_10 : gMem, μ_10 = gsI μ_1 130 r0 j_9 (vp_nar .boolean (0 : Int32)) → q μ_10))) ∧ ((¬ (iw x1 (21 : Int32) (26 : Int32)) = 0) → ∃ j_11 : Nat, j_11 < 9 ∧ μ_1.1 1 r0 3 = nI j_11 ∧ (∀ μ_12 : gMem, μ_12 = gsI μ_1 130 r0 j_11 (vp_nar .boolean (1 : Int32)) → q μ_12))))) : pt_X1_takeSign_2 l D d q Γ r0 x1 rs0 xs1 μ := by
  unfold pt_X1_takeSign_2
  obtain ⟨hz_2, h⟩ := h
  refine g_pfI fi_1_30 hrs0 (nar_z hz_2).1 (nar_z hz_2).2 dX1_takeSign_43 ?_
  obtain ⟨μ_1, eμ_1⟩ : ∃ z : gMem, z = gsI μ 1 rs0 5 xs1 := ⟨_, rfl⟩
  have h := h μ_1 eμ_1
  refine g_mem eμ_1.symm ?_
  refine g_iload_n dX1_takeSign_46 rfl ?_
  obtain ⟨hd_3, h⟩ := h
  refine g_callS ca_X1_92 (c_X1_isComparison (d := 1) (Nat.le_refl _) ) hd_3 (by decide) rfl rfl (by first | exact Nat.le_of_ble_eq_true rfl | decide) dX1_takeSign_47 (kI (fun v_4 μ_5 hq_6 => ?_))
  obtain ⟨ev_4, eμ_5⟩ := hq_6
  subst ev_4
  refine g_mem eμ_5 ?_
  refine g_if_eq (tgt := 66) dX1_takeSign_50 (by decide) (fun c_7 => ?_) (fun c_7 => ?_)
  · have h := h.1 c_7
    refine g_aload_n dX1_takeSign_66 rfl ?_
    refine g_gfI fi_1_30 hr0 dX1_takeSign_67 ?_
    refine g_if_eq (tgt := 83) dX1_takeSign_70 (by decide) (fun c_8 => ?_) (fun c_8 => ?_)
    · have h := h.1 c_8
      exact g_vret dX1_takeSign_83 rfl ⟨rfl, h⟩
    · have h := h.2 c_8
      refine g_aload_n dX1_takeSign_73 rfl ?_
      refine g_gfR fl_1_15 rfl hr0 dX1_takeSign_74 ?_
      refine g_aload_n dX1_takeSign_77 rfl ?_
      refine g_gfI fi_1_23 hr0 dX1_takeSign_78 ?_
      refine g_iconst (0 : Int32) dX1_takeSign_81 rfl ?_
      obtain ⟨j_9, hj_9, ej_9, h⟩ := h
      refine g_zast j_9 hr0 rfl hj_9 (by decide) ej_9 dX1_takeSign_82 ?_
      obtain ⟨μ_10, eμ_10⟩ : ∃ z : gMem, z = gsI μ_1 130 r0 j_9 (vp_nar .boolean (0 : Int32)) := ⟨_, rfl⟩
      have h := h μ_10 eμ_10
      refine g_mem eμ_10.symm ?_
      exact g_vret dX1_takeSign_83 rfl ⟨rfl, h⟩
  · have h := h.2 c_7
    refine g_aload_n dX1_takeSign_53 rfl ?_
    refine g_gfR fl_1_15 rfl hr0 dX1_takeSign_54 ?_
    refine g_aload_n dX1_takeSign_57 rfl ?_
    refine g_gfI fi_1_23 hr0 dX1_takeSign_58 ?_
    refine g_iconst (1 : Int32) dX1_takeSign_61 rfl ?_
    obtain ⟨j_11, hj_11, ej_11, h⟩ := h
    refine g_zast j_11 hr0 rfl hj_11 (by decide) ej_11 dX1_takeSign_62 ?_
    obtain ⟨μ_12, eμ_12⟩ : ∃ z : gMem, z = gsI μ_1 130 r0 j_11 (vp_nar .boolean (1 : Int32)) := ⟨_, rfl⟩
    have h := h μ_12 eμ_12
    refine g_mem eμ_12.symm ?_
    refine g_goto (tgt := 83) dX1_takeSign_63 (by decide) ?_
    exact g_vret dX1_takeSign_83 rfl ⟨rfl, h⟩
theorem en_X1_takeSign {l : Launch} {D : gD} {d : Nat} {q : gMem → Prop} {r0 : Nat} {x1 : Int32} {r2 : Nat} {μ : gMem} (h : ∀ Γ : gC, pt_X1_takeSign_0 l D d q Γ r0 x1 r2 μ) : Ctr l D d yX1_takeSign cX1_takeSign 3 none [.ref (D.2.2 1 r0), .int x1, .ref (D.2.2 2 r2)] μ (pV q) :=
  Ctr_of rfl (by decide) (Nat.le_of_ble_eq_true rfl) (fun Γ => g_sub [0, 1, 2] rfl (h Γ))
def pt_X1_hold_0 (l : Launch) (D : gD) (d : Nat) (q : gMem → Prop) (Γ : gC) (r0 : Nat) (x1 : Int32) (μ : gMem) : Prop := G l D RX1 cX1_hold 2 none d (pV q) Γ 0 [(0, .ref (D.2.2 1 r0)), (1, .int x1)] [] μ
set_option maxRecDepth 20000 in
set_option maxHeartbeats 4000000 in
theorem bl_X1_hold_0 {l : Launch} {D : gD} {d : Nat} {q : gMem → Prop} {Γ : gC} {r0 : Nat} {x1 : Int32} {μ : gMem} (hr0 : r0 < 1) (h : (((nI 72) ≤ (μ.1 1 r0 1)) → q μ) ∧ ((¬ (nI 72) ≤ (μ.1 1 r0 1)) → ∃ j_2 : Nat, j_2 < 72 ∧ μ.1 1 r0 1 = nI j_2 ∧ (∀ μ_3 : gMem, μ_3 = gsI μ 128 r0 j_2 x1 → ∀ μ_4 : gMem, μ_4 = gsI μ_3 1 r0 1 ((μ_3.1 1 r0 1) + (1 : Int32)) → q μ_4))) : pt_X1_hold_0 l D d q Γ r0 x1 μ := by
  unfold pt_X1_hold_0
  refine g_aload_n dX1_hold_0 rfl ?_
  refine g_gfI fi_1_19 hr0 dX1_hold_1 ?_
  refine g_aload_n dX1_hold_4 rfl ?_
  refine g_gfR fl_1_9 rfl hr0 dX1_hold_5 ?_
  refine g_alen hr0 rfl (by decide) dX1_hold_8 ?_
  refine g_icmp_ge (tgt := 32) dX1_hold_9 (by decide) (fun c_1 => ?_) (fun c_1 => ?_)
  · have h := h.1 c_1
    exact g_vret dX1_hold_32 rfl ⟨rfl, h⟩
  · have h := h.2 c_1
    refine g_aload_n dX1_hold_12 rfl ?_
    refine g_gfR fl_1_9 rfl hr0 dX1_hold_13 ?_
    refine g_aload_n dX1_hold_16 rfl ?_
    refine g_gfI fi_1_19 hr0 dX1_hold_17 ?_
    refine g_iload_n dX1_hold_20 rfl ?_
    obtain ⟨j_2, hj_2, ej_2, h⟩ := h
    refine g_iast j_2 hr0 rfl hj_2 (by decide) ej_2 dX1_hold_21 ?_
    obtain ⟨μ_3, eμ_3⟩ : ∃ z : gMem, z = gsI μ 128 r0 j_2 x1 := ⟨_, rfl⟩
    have h := h μ_3 eμ_3
    refine g_mem eμ_3.symm ?_
    refine g_aload_n dX1_hold_22 rfl ?_
    refine g_dup dX1_hold_23 rfl ?_
    refine g_gfI fi_1_19 hr0 dX1_hold_24 ?_
    refine g_iconst (1 : Int32) dX1_hold_27 rfl ?_
    refine g_iadd dX1_hold_28 ?_
    refine g_pfI fi_1_19 hr0 rfl rfl dX1_hold_29 ?_
    obtain ⟨μ_4, eμ_4⟩ : ∃ z : gMem, z = gsI μ_3 1 r0 1 ((μ_3.1 1 r0 1) + (1 : Int32)) := ⟨_, rfl⟩
    have h := h μ_4 eμ_4
    refine g_mem eμ_4.symm ?_
    exact g_vret dX1_hold_32 rfl ⟨rfl, h⟩
theorem en_X1_hold {l : Launch} {D : gD} {d : Nat} {q : gMem → Prop} {r0 : Nat} {x1 : Int32} {μ : gMem} (h : ∀ Γ : gC, pt_X1_hold_0 l D d q Γ r0 x1 μ) : Ctr l D d yX1_hold cX1_hold 2 none [.ref (D.2.2 1 r0), .int x1] μ (pV q) :=
  Ctr_of rfl (by decide) (Nat.le_of_ble_eq_true rfl) (fun Γ => g_sub [0, 1] rfl (h Γ))
def pt_X1_release_0 (l : Launch) (D : gD) (d : Nat) (q : gMem → Prop) (Γ : gC) (r0 : Nat) (r1 : Nat) (x2 : Int32) (μ : gMem) : Prop := G l D RX1 cX1_release 3 none d (pV q) Γ 0 [(0, .ref (D.2.2 1 r0)), (1, .ref (D.2.2 2 r1)), (2, .int x2)] [] μ
set_option maxRecDepth 20000 in
set_option maxHeartbeats 4000000 in
theorem bl_X1_release_0 {l : Launch} {D : gD} {d : Nat} {q : gMem → Prop} {Γ : gC} {r0 : Nat} {r1 : Nat} {x2 : Int32} {μ : gMem} (hr0 : r0 < 1) (hr1 : r1 < 2) (h : (((μ.1 1 r0 1) ≤ 0) → q μ) ∧ ((¬ (μ.1 1 r0 1) ≤ 0) → ∃ j_2 : Nat, j_2 < 72 ∧ (μ.1 1 r0 1) - (1 : Int32) = nI j_2 ∧ ((0 < d) ∧ ((((strn (μ.1 128 r0 j_2)) < x2) → q μ) ∧ ((¬ (strn (μ.1 128 r0 j_2)) < x2) → ∀ μ_8 : gMem, μ_8 = gsI μ 1 r0 1 ((μ.1 1 r0 1) - (1 : Int32)) → ∃ j_9 : Nat, j_9 < 72 ∧ μ_8.1 1 r0 1 = nI j_9 ∧ (∃ (d_10 : Nat) (q_11 : gMem → Prop), d_10 < d ∧ Ctr l D d_10 yX2_add cX2_add 3 none [.ref (D.2.2 2 r1), .int (μ_8.1 128 r0 j_9), .int (0 : Int32)] μ_8 (pV q_11) ∧ ∀ (μ_14 : gMem), q_11 μ_14 → pt_X1_release_0 l D d q Γ r0 r1 x2 μ_14)))))) : pt_X1_release_0 l D d q Γ r0 r1 x2 μ := by
  unfold pt_X1_release_0
  refine g_aload_n dX1_release_0 rfl ?_
  refine g_gfI fi_1_19 hr0 dX1_release_1 ?_
  refine g_if_le (tgt := 52) dX1_release_4 (by decide) (fun c_1 => ?_) (fun c_1 => ?_)
  · have h := h.1 c_1
    exact g_vret dX1_release_52 rfl ⟨rfl, h⟩
  · have h := h.2 c_1
    refine g_aload_n dX1_release_7 rfl ?_
    refine g_gfR fl_1_9 rfl hr0 dX1_release_8 ?_
    refine g_aload_n dX1_release_11 rfl ?_
    refine g_gfI fi_1_19 hr0 dX1_release_12 ?_
    refine g_iconst (1 : Int32) dX1_release_15 rfl ?_
    refine g_isub dX1_release_16 ?_
    obtain ⟨j_2, hj_2, ej_2, h⟩ := h
    refine g_iald j_2 hr0 rfl hj_2 (by decide) ej_2 dX1_release_17 ?_
    obtain ⟨hd_3, h⟩ := h
    refine g_callS ca_X1_104 (c_X1_strength (d := 0) (Nat.le_refl _) ) hd_3 (by decide) rfl rfl (by first | exact Nat.le_of_ble_eq_true rfl | decide) dX1_release_18 (kI (fun v_4 μ_5 hq_6 => ?_))
    obtain ⟨ev_4, eμ_5⟩ := hq_6
    subst ev_4
    refine g_mem eμ_5 ?_
    refine g_iload_n dX1_release_21 rfl ?_
    refine g_icmp_lt (tgt := 52) dX1_release_22 (by decide) (fun c_7 => ?_) (fun c_7 => ?_)
    · have h := h.1 c_7
      exact g_vret dX1_release_52 rfl ⟨rfl, h⟩
    · have h := h.2 c_7
      refine g_aload_n dX1_release_25 rfl ?_
      refine g_dup dX1_release_26 rfl ?_
      refine g_gfI fi_1_19 hr0 dX1_release_27 ?_
      refine g_iconst (1 : Int32) dX1_release_30 rfl ?_
      refine g_isub dX1_release_31 ?_
      refine g_pfI fi_1_19 hr0 rfl rfl dX1_release_32 ?_
      obtain ⟨μ_8, eμ_8⟩ : ∃ z : gMem, z = gsI μ 1 r0 1 ((μ.1 1 r0 1) - (1 : Int32)) := ⟨_, rfl⟩
      have h := h μ_8 eμ_8
      refine g_mem eμ_8.symm ?_
      refine g_aload_n dX1_release_35 rfl ?_
      refine g_aload_n dX1_release_36 rfl ?_
      refine g_gfR fl_1_9 rfl hr0 dX1_release_37 ?_
      refine g_aload_n dX1_release_40 rfl ?_
      refine g_gfI fi_1_19 hr0 dX1_release_41 ?_
      obtain ⟨j_9, hj_9, ej_9, h⟩ := h
      refine g_iald j_9 hr0 rfl hj_9 (by decide) ej_9 dX1_release_44 ?_
      refine g_iconst (0 : Int32) dX1_release_45 rfl ?_
      obtain ⟨d_10, q_11, hd_12, hc_13, h⟩ := h
      refine g_cV ca_X1_64 ob_2 hc_13 hd_12 (by decide) hr1 rfl rfl (by first | exact Nat.le_of_ble_eq_true rfl | decide) dX1_release_46 (kV (fun μ_14 hq_16 => ?_))
      have h := h μ_14 hq_16
      refine g_goto (tgt := 0) dX1_release_49 (by decide) ?_
      exact g_sub [0, 1, 2] rfl h
theorem en_X1_release {l : Launch} {D : gD} {d : Nat} {q : gMem → Prop} {r0 : Nat} {r1 : Nat} {x2 : Int32} {μ : gMem} (h : ∀ Γ : gC, pt_X1_release_0 l D d q Γ r0 r1 x2 μ) : Ctr l D d yX1_release cX1_release 3 none [.ref (D.2.2 1 r0), .ref (D.2.2 2 r1), .int x2] μ (pV q) :=
  Ctr_of rfl (by decide) (Nat.le_of_ble_eq_true rfl) (fun Γ => g_sub [0, 1, 2] rfl (h Γ))
def pt_X2_clear_0 (l : Launch) (D : gD) (d : Nat) (q : gMem → Prop) (Γ : gC) (r0 : Nat) (μ : gMem) : Prop := G l D RX2 cX2_clear 1 none d (pV q) Γ 0 [(0, .ref (D.2.2 2 r0))] [] μ
set_option maxRecDepth 20000 in
set_option maxHeartbeats 4000000 in
theorem bl_X2_clear_0 {l : Launch} {D : gD} {d : Nat} {q : gMem → Prop} {Γ : gC} {r0 : Nat} {μ : gMem} (hr0 : r0 < 2) (h : ∀ μ_1 : gMem, μ_1 = gsI μ 2 r0 6 (0 : Int32) → ∀ μ_2 : gMem, μ_2 = gsI μ_1 2 r0 7 (0 : Int32) → ∀ μ_3 : gMem, μ_3 = gsI μ_2 2 r0 8 (0 : Int32) → ∃ (d_4 : Nat) (q_5 : gMem → Prop), d_4 < d ∧ Ctr l D d_4 yJ7_fill_53178 cJ7_fill_53178 4 none [.ref (D.2.2 194 r0), .int (0 : Int32)] μ_3 (pV q_5) ∧ ∀ (μ_8 : gMem), q_5 μ_8 → ∃ (d_11 : Nat) (q_12 : gMem → Prop), d_11 < d ∧ Ctr l D d_11 yJ7_fill_53178 cJ7_fill_53178 4 none [.ref (D.2.2 195 r0), .int (0 : Int32)] μ_8 (pV q_12) ∧ ∀ (μ_15 : gMem), q_12 μ_15 → q μ_15) : pt_X2_clear_0 l D d q Γ r0 μ := by
  unfold pt_X2_clear_0
  refine g_aload_n dX2_clear_0 rfl ?_
  refine g_iconst (0 : Int32) dX2_clear_1 rfl ?_
  refine g_pfI fi_2_31 hr0 rfl rfl dX2_clear_2 ?_
  obtain ⟨μ_1, eμ_1⟩ : ∃ z : gMem, z = gsI μ 2 r0 6 (0 : Int32) := ⟨_, rfl⟩
  have h := h μ_1 eμ_1
  refine g_mem eμ_1.symm ?_
  refine g_aload_n dX2_clear_5 rfl ?_
  refine g_iconst (0 : Int32) dX2_clear_6 rfl ?_
  refine g_pfI fi_2_35 hr0 rfl rfl dX2_clear_7 ?_
  obtain ⟨μ_2, eμ_2⟩ : ∃ z : gMem, z = gsI μ_1 2 r0 7 (0 : Int32) := ⟨_, rfl⟩
  have h := h μ_2 eμ_2
  refine g_mem eμ_2.symm ?_
  refine g_aload_n dX2_clear_10 rfl ?_
  refine g_iconst (0 : Int32) dX2_clear_11 rfl ?_
  refine g_pfI fi_2_38 hr0 rfl rfl dX2_clear_12 ?_
  obtain ⟨μ_3, eμ_3⟩ : ∃ z : gMem, z = gsI μ_2 2 r0 8 (0 : Int32) := ⟨_, rfl⟩
  have h := h μ_3 eμ_3
  refine g_mem eμ_3.symm ?_
  refine g_aload_n dX2_clear_15 rfl ?_
  refine g_gfR fl_2_18 rfl hr0 dX2_clear_16 ?_
  refine g_iconst (0 : Int32) dX2_clear_19 rfl ?_
  obtain ⟨d_4, q_5, hd_6, hc_7, h⟩ := h
  refine g_callS ca_X2_42 hc_7 hd_6 (by decide) rfl rfl (by first | exact Nat.le_of_ble_eq_true rfl | decide) dX2_clear_20 (kV (fun μ_8 hq_10 => ?_))
  have h := h μ_8 hq_10
  refine g_aload_n dX2_clear_23 rfl ?_
  refine g_gfR fl_2_21 rfl hr0 dX2_clear_24 ?_
  refine g_iconst (0 : Int32) dX2_clear_27 rfl ?_
  obtain ⟨d_11, q_12, hd_13, hc_14, h⟩ := h
  refine g_callS ca_X2_42 hc_14 hd_13 (by decide) rfl rfl (by first | exact Nat.le_of_ble_eq_true rfl | decide) dX2_clear_28 (kV (fun μ_15 hq_17 => ?_))
  have h := h μ_15 hq_17
  exact g_vret dX2_clear_31 rfl ⟨rfl, h⟩
theorem en_X2_clear {l : Launch} {D : gD} {d : Nat} {q : gMem → Prop} {r0 : Nat} {μ : gMem} (h : ∀ Γ : gC, pt_X2_clear_0 l D d q Γ r0 μ) : Ctr l D d yX2_clear cX2_clear 1 none [.ref (D.2.2 2 r0)] μ (pV q) :=
  Ctr_of rfl (by decide) (Nat.le_of_ble_eq_true rfl) (fun Γ => g_sub [0] rfl (h Γ))
def pt_X2_begin_0 (l : Launch) (D : gD) (d : Nat) (q : gMem → Prop) (Γ : gC) (r0 : Nat) (x1 : Int32) (μ : gMem) : Prop := G l D RX2 cX2_begin 2 none d (pV q) Γ 0 [(0, .ref (D.2.2 2 r0)), (1, .int x1)] [] μ
set_option maxRecDepth 20000 in
set_option maxHeartbeats 4000000 in
theorem bl_X2_begin_0 {l : Launch} {D : gD} {d : Nat} {q : gMem → Prop} {Γ : gC} {r0 : Nat} {x1 : Int32} {μ : gMem} (hr0 : r0 < 2) (h : ∃ j_1 : Nat, j_1 < 3 ∧ x1 = nI j_1 ∧ (∀ μ_2 : gMem, μ_2 = gsI μ 194 r0 j_1 (μ.1 2 r0 6) → q μ_2)) : pt_X2_begin_0 l D d q Γ r0 x1 μ := by
  unfold pt_X2_begin_0
  refine g_aload_n dX2_begin_0 rfl ?_
  refine g_gfR fl_2_18 rfl hr0 dX2_begin_1 ?_
  refine g_iload_n dX2_begin_4 rfl ?_
  refine g_aload_n dX2_begin_5 rfl ?_
  refine g_gfI fi_2_31 hr0 dX2_begin_6 ?_
  obtain ⟨j_1, hj_1, ej_1, h⟩ := h
  refine g_iast j_1 hr0 rfl hj_1 (by decide) ej_1 dX2_begin_9 ?_
  obtain ⟨μ_2, eμ_2⟩ : ∃ z : gMem, z = gsI μ 194 r0 j_1 (μ.1 2 r0 6) := ⟨_, rfl⟩
  have h := h μ_2 eμ_2
  refine g_mem eμ_2.symm ?_
  exact g_vret dX2_begin_10 rfl ⟨rfl, h⟩
theorem en_X2_begin {l : Launch} {D : gD} {d : Nat} {q : gMem → Prop} {r0 : Nat} {x1 : Int32} {μ : gMem} (h : ∀ Γ : gC, pt_X2_begin_0 l D d q Γ r0 x1 μ) : Ctr l D d yX2_begin cX2_begin 2 none [.ref (D.2.2 2 r0), .int x1] μ (pV q) :=
  Ctr_of rfl (by decide) (Nat.le_of_ble_eq_true rfl) (fun Γ => g_sub [0, 1] rfl (h Γ))
def pt_X2_end_0 (l : Launch) (D : gD) (d : Nat) (q : gMem → Prop) (Γ : gC) (r0 : Nat) (x1 : Int32) (μ : gMem) : Prop := G l D RX2 cX2_end 2 none d (pV q) Γ 0 [(0, .ref (D.2.2 2 r0)), (1, .int x1)] [] μ
set_option maxRecDepth 20000 in
set_option maxHeartbeats 4000000 in
theorem bl_X2_end_0 {l : Launch} {D : gD} {d : Nat} {q : gMem → Prop} {Γ : gC} {r0 : Nat} {x1 : Int32} {μ : gMem} (hr0 : r0 < 2) (h : ∃ j_1 : Nat, j_1 < 3 ∧ x1 = nI j_1 ∧ (∀ μ_2 : gMem, μ_2 = gsI μ 195 r0 j_1 (μ.1 2 r0 6) → q μ_2)) : pt_X2_end_0 l D d q Γ r0 x1 μ := by
  unfold pt_X2_end_0
  refine g_aload_n dX2_end_0 rfl ?_
  refine g_gfR fl_2_21 rfl hr0 dX2_end_1 ?_
  refine g_iload_n dX2_end_4 rfl ?_
  refine g_aload_n dX2_end_5 rfl ?_
  refine g_gfI fi_2_31 hr0 dX2_end_6 ?_
  obtain ⟨j_1, hj_1, ej_1, h⟩ := h
  refine g_iast j_1 hr0 rfl hj_1 (by decide) ej_1 dX2_end_9 ?_
  obtain ⟨μ_2, eμ_2⟩ : ∃ z : gMem, z = gsI μ 195 r0 j_1 (μ.1 2 r0 6) := ⟨_, rfl⟩
  have h := h μ_2 eμ_2
  refine g_mem eμ_2.symm ?_
  exact g_vret dX2_end_10 rfl ⟨rfl, h⟩
theorem en_X2_end {l : Launch} {D : gD} {d : Nat} {q : gMem → Prop} {r0 : Nat} {x1 : Int32} {μ : gMem} (h : ∀ Γ : gC, pt_X2_end_0 l D d q Γ r0 x1 μ) : Ctr l D d yX2_end cX2_end 2 none [.ref (D.2.2 2 r0), .int x1] μ (pV q) :=
  Ctr_of rfl (by decide) (Nat.le_of_ble_eq_true rfl) (fun Γ => g_sub [0, 1] rfl (h Γ))
def pt_X2_add_0 (l : Launch) (D : gD) (d : Nat) (q : gMem → Prop) (Γ : gC) (r0 : Nat) (x1 : Int32) (x2 : Int32) (μ : gMem) : Prop := G l D RX2 cX2_add 3 none d (pV q) Γ 0 [(0, .ref (D.2.2 2 r0)), (1, .int x1), (2, .int x2)] [] μ
def pt_X2_add_1 (l : Launch) (D : gD) (d : Nat) (q : gMem → Prop) (Γ : gC) (rs0 : Nat) (μ : gMem) : Prop := G l D RX2 cX2_add 3 none d (pV q) Γ 53 [] [.ref (D.2.2 2 rs0)] μ
def pt_X2_add_2 (l : Launch) (D : gD) (d : Nat) (q : gMem → Prop) (Γ : gC) (rs0 : Nat) (xs1 : Int32) (μ : gMem) : Prop := G l D RX2 cX2_add 3 none d (pV q) Γ 58 [] [.int xs1, .ref (D.2.2 2 rs0)] μ
set_option maxRecDepth 20000 in
set_option maxHeartbeats 4000000 in
theorem bl_X2_add_0 {l : Launch} {D : gD} {d : Nat} {q : gMem → Prop} {Γ : gC} {r0 : Nat} {x1 : Int32} {x2 : Int32} {μ : gMem} (hr0 : r0 < 2) (h : (((64 : Int32) ≤ (μ.1 2 r0 6)) → q μ) ∧ ((¬ (64 : Int32) ≤ (μ.1 2 r0 6)) → ∃ j_2 : Nat, j_2 < 64 ∧ μ.1 2 r0 6 = nI j_2 ∧ (∀ μ_3 : gMem, μ_3 = gsI μ 192 r0 j_2 x1 → ∃ j_4 : Nat, j_4 < 64 ∧ μ_3.1 2 r0 6 = nI j_4 ∧ (∀ μ_5 : gMem, μ_5 = gsI μ_3 193 r0 j_4 x2 → ∀ μ_6 : gMem, μ_6 = gsI μ_5 2 r0 6 ((μ_5.1 2 r0 6) + (1 : Int32)) → ((¬ (μ_6.1 2 r0 8) = 0) → pt_X2_add_1 l D d q Γ r0 μ_6) ∧ (((μ_6.1 2 r0 8) = 0) → ((¬ x1 = (19 : Int32)) → pt_X2_add_2 l D d q Γ r0 (0 : Int32) μ_6) ∧ ((x1 = (19 : Int32)) → pt_X2_add_1 l D d q Γ r0 μ_6)))))) : pt_X2_add_0 l D d q Γ r0 x1 x2 μ := by
  unfold pt_X2_add_0
  refine g_aload_n dX2_add_0 rfl ?_
  refine g_gfI fi_2_31 hr0 dX2_add_1 ?_
  refine g_bipush (64 : Int32) dX2_add_4 rfl ?_
  refine g_icmp_ge (tgt := 61) dX2_add_6 (by decide) (fun c_1 => ?_) (fun c_1 => ?_)
  · have h := h.1 c_1
    exact g_vret dX2_add_61 rfl ⟨rfl, h⟩
  · have h := h.2 c_1
    refine g_aload_n dX2_add_9 rfl ?_
    refine g_gfR fl_2_9 rfl hr0 dX2_add_10 ?_
    refine g_aload_n dX2_add_13 rfl ?_
    refine g_gfI fi_2_31 hr0 dX2_add_14 ?_
    refine g_iload_n dX2_add_17 rfl ?_
    obtain ⟨j_2, hj_2, ej_2, h⟩ := h
    refine g_iast j_2 hr0 rfl hj_2 (by decide) ej_2 dX2_add_18 ?_
    obtain ⟨μ_3, eμ_3⟩ : ∃ z : gMem, z = gsI μ 192 r0 j_2 x1 := ⟨_, rfl⟩
    have h := h μ_3 eμ_3
    refine g_mem eμ_3.symm ?_
    refine g_aload_n dX2_add_19 rfl ?_
    refine g_gfR fl_2_15 rfl hr0 dX2_add_20 ?_
    refine g_aload_n dX2_add_23 rfl ?_
    refine g_gfI fi_2_31 hr0 dX2_add_24 ?_
    refine g_iload_n dX2_add_27 rfl ?_
    obtain ⟨j_4, hj_4, ej_4, h⟩ := h
    refine g_iast j_4 hr0 rfl hj_4 (by decide) ej_4 dX2_add_28 ?_
    obtain ⟨μ_5, eμ_5⟩ : ∃ z : gMem, z = gsI μ_3 193 r0 j_4 x2 := ⟨_, rfl⟩
    have h := h μ_5 eμ_5
    refine g_mem eμ_5.symm ?_
    refine g_aload_n dX2_add_29 rfl ?_
    refine g_dup dX2_add_30 rfl ?_
    refine g_gfI fi_2_31 hr0 dX2_add_31 ?_
    refine g_iconst (1 : Int32) dX2_add_34 rfl ?_
    refine g_iadd dX2_add_35 ?_
    refine g_pfI fi_2_31 hr0 rfl rfl dX2_add_36 ?_
    obtain ⟨μ_6, eμ_6⟩ : ∃ z : gMem, z = gsI μ_5 2 r0 6 ((μ_5.1 2 r0 6) + (1 : Int32)) := ⟨_, rfl⟩
    have h := h μ_6 eμ_6
    refine g_mem eμ_6.symm ?_
    refine g_aload_n dX2_add_39 rfl ?_
    refine g_aload_n dX2_add_40 rfl ?_
    refine g_gfI fi_2_38 hr0 dX2_add_41 ?_
    refine g_if_ne (tgt := 53) dX2_add_44 (by decide) (fun c_7 => ?_) (fun c_7 => ?_)
    · have h := h.1 c_7
      exact g_sub [] rfl h
    · have h := h.2 c_7
      refine g_iload_n dX2_add_47 rfl ?_
      refine g_bipush (19 : Int32) dX2_add_48 rfl ?_
      refine g_icmp_ne (tgt := 57) dX2_add_50 (by decide) (fun c_8 => ?_) (fun c_8 => ?_)
      · have h := h.1 c_8
        refine g_iconst (0 : Int32) dX2_add_57 rfl ?_
        exact g_sub [] rfl h
      · have h := h.2 c_8
        exact g_sub [] rfl h
set_option maxRecDepth 20000 in
set_option maxHeartbeats 4000000 in
theorem bl_X2_add_1 {l : Launch} {D : gD} {d : Nat} {q : gMem → Prop} {Γ : gC} {rs0 : Nat} {μ : gMem} (hrs0 : rs0 < 2) (h : pt_X2_add_2 l D d q Γ rs0 (1 : Int32) μ) : pt_X2_add_1 l D d q Γ rs0 μ := by
  unfold pt_X2_add_1
  refine g_iconst (1 : Int32) dX2_add_53 rfl ?_
  refine g_goto (tgt := 58) dX2_add_54 (by decide) ?_
  exact g_sub [] rfl h
set_option maxRecDepth 20000 in
set_option maxHeartbeats 4000000 in
theorem bl_X2_add_2 {l : Launch} {D : gD} {d : Nat} {q : gMem → Prop} {Γ : gC} {rs0 : Nat} {xs1 : Int32} {μ : gMem} (hrs0 : rs0 < 2) (h : (xs1 = 0 ∨ xs1 = 1) ∧ (∀ μ_1 : gMem, μ_1 = gsI μ 2 rs0 8 xs1 → q μ_1)) : pt_X2_add_2 l D d q Γ rs0 xs1 μ := by
  unfold pt_X2_add_2
  obtain ⟨hz_2, h⟩ := h
  refine g_pfI fi_2_38 hrs0 (nar_z hz_2).1 (nar_z hz_2).2 dX2_add_58 ?_
  obtain ⟨μ_1, eμ_1⟩ : ∃ z : gMem, z = gsI μ 2 rs0 8 xs1 := ⟨_, rfl⟩
  have h := h μ_1 eμ_1
  refine g_mem eμ_1.symm ?_
  exact g_vret dX2_add_61 rfl ⟨rfl, h⟩
theorem en_X2_add {l : Launch} {D : gD} {d : Nat} {q : gMem → Prop} {r0 : Nat} {x1 : Int32} {x2 : Int32} {μ : gMem} (h : ∀ Γ : gC, pt_X2_add_0 l D d q Γ r0 x1 x2 μ) : Ctr l D d yX2_add cX2_add 3 none [.ref (D.2.2 2 r0), .int x1, .int x2] μ (pV q) :=
  Ctr_of rfl (by decide) (Nat.le_of_ble_eq_true rfl) (fun Γ => g_sub [0, 1, 2] rfl (h Γ))
def pt_X2_isTold_0 (l : Launch) (D : gD) (d : Nat) (q : Int32 → gMem → Prop) (Γ : gC) (r0 : Nat) (x1 : Int32) (μ : gMem) : Prop := G l D RX2 cX2_isTold 2 (some .boolean) d (pI q) Γ 0 [(0, .ref (D.2.2 2 r0)), (1, .int x1)] [] μ
set_option maxRecDepth 20000 in
set_option maxHeartbeats 4000000 in
theorem bl_X2_isTold_0 {l : Launch} {D : gD} {d : Nat} {q : Int32 → gMem → Prop} {Γ : gC} {r0 : Nat} {x1 : Int32} {μ : gMem} (hr0 : r0 < 2) (h : ∃ j_1 : Nat, j_1 < 3 ∧ x1 = nI j_1 ∧ (∃ j_2 : Nat, j_2 < 3 ∧ x1 = nI j_2 ∧ ((((μ.1 195 r0 j_1) ≤ (μ.1 194 r0 j_2)) → q (0 : Int32) μ) ∧ ((¬ (μ.1 195 r0 j_1) ≤ (μ.1 194 r0 j_2)) → q (1 : Int32) μ)))) : pt_X2_isTold_0 l D d q Γ r0 x1 μ := by
  unfold pt_X2_isTold_0
  refine g_aload_n dX2_isTold_0 rfl ?_
  refine g_gfR fl_2_21 rfl hr0 dX2_isTold_1 ?_
  refine g_iload_n dX2_isTold_4 rfl ?_
  obtain ⟨j_1, hj_1, ej_1, h⟩ := h
  refine g_iald j_1 hr0 rfl hj_1 (by decide) ej_1 dX2_isTold_5 ?_
  refine g_aload_n dX2_isTold_6 rfl ?_
  refine g_gfR fl_2_18 rfl hr0 dX2_isTold_7 ?_
  refine g_iload_n dX2_isTold_10 rfl ?_
  obtain ⟨j_2, hj_2, ej_2, h⟩ := h
  refine g_iald j_2 hr0 rfl hj_2 (by decide) ej_2 dX2_isTold_11 ?_
  refine g_icmp_le (tgt := 19) dX2_isTold_12 (by decide) (fun c_3 => ?_) (fun c_3 => ?_)
  · have h := h.1 c_3
    refine g_iconst (0 : Int32) dX2_isTold_19 rfl ?_
    exact g_iret dX2_isTold_20 rfl rfl ⟨_, rfl, h⟩
  · have h := h.2 c_3
    refine g_iconst (1 : Int32) dX2_isTold_15 rfl ?_
    refine g_goto (tgt := 20) dX2_isTold_16 (by decide) ?_
    exact g_iret dX2_isTold_20 rfl rfl ⟨_, rfl, h⟩
theorem en_X2_isTold {l : Launch} {D : gD} {d : Nat} {q : Int32 → gMem → Prop} {r0 : Nat} {x1 : Int32} {μ : gMem} (h : ∀ Γ : gC, pt_X2_isTold_0 l D d q Γ r0 x1 μ) : Ctr l D d yX2_isTold cX2_isTold 2 (some .boolean) [.ref (D.2.2 2 r0), .int x1] μ (pI q) :=
  Ctr_of rfl (by decide) (Nat.le_of_ble_eq_true rfl) (fun Γ => g_sub [0, 1] rfl (h Γ))
def pt_X2_workOut_0 (l : Launch) (D : gD) (d : Nat) (q : Int32 → gMem → Prop) (Γ : gC) (r0 : Nat) (x1 : Int32) (μ : gMem) : Prop := G l D RX2 cX2_workOut 5 (some .boolean) d (pI q) Γ 0 [(0, .ref (D.2.2 2 r0)), (1, .int x1)] [] μ
def pt_X2_workOut_1 (l : Launch) (D : gD) (d : Nat) (q : Int32 → gMem → Prop) (Γ : gC) (r0 : Nat) (x1 : Int32) (x2 : Int32) (x3 : Int32) (μ : gMem) : Prop := G l D RX2 cX2_workOut 5 (some .boolean) d (pI q) Γ 9 [(0, .ref (D.2.2 2 r0)), (1, .int x1), (2, .int x2), (3, .int x3)] [] μ
def pt_X2_workOut_2 (l : Launch) (D : gD) (d : Nat) (q : Int32 → gMem → Prop) (Γ : gC) (r0 : Nat) (x1 : Int32) (x2 : Int32) (x3 : Int32) (rs0 : Nat) (xs1 : Int32) (ls2 : Int64) (μ : gMem) : Prop := G l D RX2 cX2_workOut 5 (some .boolean) d (pI q) Γ 129 [(0, .ref (D.2.2 2 r0)), (1, .int x1), (2, .int x2), (3, .int x3)] [.long ls2, .int xs1, .ref (D.2.2 196 rs0)] μ
def pt_X2_workOut_3 (l : Launch) (D : gD) (d : Nat) (q : Int32 → gMem → Prop) (Γ : gC) (r0 : Nat) (x1 : Int32) (x2 : Int32) (x3 : Int32) (x4 : Int32) (μ : gMem) : Prop := G l D RX2 cX2_workOut 5 (some .boolean) d (pI q) Γ 133 [(0, .ref (D.2.2 2 r0)), (1, .int x1), (2, .int x2), (3, .int x3), (4, .int x4)] [] μ
def pt_X2_workOut_4 (l : Launch) (D : gD) (d : Nat) (q : Int32 → gMem → Prop) (Γ : gC) (r0 : Nat) (x1 : Int32) (x2 : Int32) (x3 : Int32) (μ : gMem) : Prop := G l D RX2 cX2_workOut 5 (some .boolean) d (pI q) Γ 197 [(0, .ref (D.2.2 2 r0)), (1, .int x1), (2, .int x2), (3, .int x3)] [] μ
def pt_X2_workOut_5 (l : Launch) (D : gD) (d : Nat) (q : Int32 → gMem → Prop) (Γ : gC) (r0 : Nat) (x2 : Int32) (μ : gMem) : Prop := G l D RX2 cX2_workOut 5 (some .boolean) d (pI q) Γ 203 [(0, .ref (D.2.2 2 r0)), (2, .int x2)] [] μ
set_option maxRecDepth 20000 in
set_option maxHeartbeats 4000000 in
theorem bl_X2_workOut_0 {l : Launch} {D : gD} {d : Nat} {q : Int32 → gMem → Prop} {Γ : gC} {r0 : Nat} {x1 : Int32} {μ : gMem} (hr0 : r0 < 2) (h : ∀ x2_1 : Int32, x2_1 = (0 : Int32) → ∃ j_2 : Nat, j_2 < 3 ∧ x1 = nI j_2 ∧ (∀ x3_3 : Int32, x3_3 = μ.1 194 r0 j_2 → pt_X2_workOut_1 l D d q Γ r0 x1 x2_1 x3_3 μ)) : pt_X2_workOut_0 l D d q Γ r0 x1 μ := by
  unfold pt_X2_workOut_0
  refine g_iconst (0 : Int32) dX2_workOut_0 rfl ?_
  refine g_istore_n dX2_workOut_1 (by decide) (fun x2_1 ex2_1 => g_sub (lv' := [(0, .ref (D.2.2 2 r0)), (1, .int x1), (2, .int x2_1)]) [1, 2, 0] rfl ?_)
  have h := h x2_1 ex2_1
  refine g_aload_n dX2_workOut_2 rfl ?_
  refine g_gfR fl_2_18 rfl hr0 dX2_workOut_3 ?_
  refine g_iload_n dX2_workOut_6 rfl ?_
  obtain ⟨j_2, hj_2, ej_2, h⟩ := h
  refine g_iald j_2 hr0 rfl hj_2 (by decide) ej_2 dX2_workOut_7 ?_
  refine g_istore_n dX2_workOut_8 (by decide) (fun x3_3 ex3_3 => g_sub (lv' := [(0, .ref (D.2.2 2 r0)), (1, .int x1), (2, .int x2_1), (3, .int x3_3)]) [1, 2, 3, 0] rfl ?_)
  have h := h x3_3 ex3_3
  exact g_sub [0, 1, 2, 3] rfl h
set_option maxRecDepth 20000 in
set_option maxHeartbeats 4000000 in
theorem bl_X2_workOut_1 {l : Launch} {D : gD} {d : Nat} {q : Int32 → gMem → Prop} {Γ : gC} {r0 : Nat} {x1 : Int32} {x2 : Int32} {x3 : Int32} {μ : gMem} (hr0 : r0 < 2) (h : ∃ j_1 : Nat, j_1 < 3 ∧ x1 = nI j_1 ∧ ((((μ.1 195 r0 j_1) ≤ x3) → pt_X2_workOut_5 l D d q Γ r0 x2 μ) ∧ ((¬ (μ.1 195 r0 j_1) ≤ x3) → (((64 : Int32) ≤ x2) → pt_X2_workOut_5 l D d q Γ r0 x2 μ) ∧ ((¬ (64 : Int32) ≤ x2) → ∃ j_4 : Nat, j_4 < 64 ∧ x3 = nI j_4 ∧ (∀ x4_5 : Int32, x4_5 = μ.1 192 r0 j_4 → ((¬ x4_5 = (34 : Int32)) → (0 < d) ∧ ((((iw x4_5 (14 : Int32) (20 : Int32)) = 0) → ((x2 ≤ 0) → pt_X2_workOut_3 l D d q Γ r0 x1 x2 x3 x4_5 μ) ∧ ((¬ x2 ≤ 0) → ((¬ x4_5 = (13 : Int32)) → pt_X2_workOut_3 l D d q Γ r0 x1 x2 x3 x4_5 μ) ∧ ((x4_5 = (13 : Int32)) → ∃ j_14 : Nat, j_14 < 64 ∧ x2 - (1 : Int32) = nI j_14 ∧ (((¬ (lg_cmp (μ.2.1 196 r0 j_14) (0 : Int64)) = 0) → pt_X2_workOut_2 l D d q Γ r0 x1 x2 x3 r0 (x2 - (1 : Int32)) (0 : Int64) μ) ∧ (((lg_cmp (μ.2.1 196 r0 j_14) (0 : Int64)) = 0) → pt_X2_workOut_2 l D d q Γ r0 x1 x2 x3 r0 (x2 - (1 : Int32)) (1 : Int64) μ))))) ∧ ((¬ (iw x4_5 (14 : Int32) (20 : Int32)) = 0) → ∃ j_16 : Nat, j_16 < 7 ∧ x4_5 - (14 : Int32) = nI j_16 ∧ (∃ j_17 : Nat, j_17 < 64 ∧ x2 = nI j_17 ∧ (∀ μ_18 : gMem, μ_18 = gsL μ 196 r0 j_17 (μ.2.1 197 r0 j_16) → ∀ x2_19 : Int32, x2_19 = x2 + (1 : Int32) → pt_X2_workOut_4 l D d q Γ r0 x1 x2_19 x3 μ_18))))) ∧ ((x4_5 = (34 : Int32)) → ∃ j_20 : Nat, j_20 < 64 ∧ x3 = nI j_20 ∧ (∃ j_21 : Nat, j_21 < 64 ∧ x2 = nI j_21 ∧ (∀ μ_22 : gMem, μ_22 = gsL μ 196 r0 j_21 ((μ.1 193 r0 j_20).toInt64) → ∀ x2_23 : Int32, x2_23 = x2 + (1 : Int32) → pt_X2_workOut_4 l D d q Γ r0 x1 x2_23 x3 μ_22)))))))) : pt_X2_workOut_1 l D d q Γ r0 x1 x2 x3 μ := by
  unfold pt_X2_workOut_1
  refine g_iload_n dX2_workOut_9 rfl ?_
  refine g_aload_n dX2_workOut_10 rfl ?_
  refine g_gfR fl_2_21 rfl hr0 dX2_workOut_11 ?_
  refine g_iload_n dX2_workOut_14 rfl ?_
  obtain ⟨j_1, hj_1, ej_1, h⟩ := h
  refine g_iald j_1 hr0 rfl hj_1 (by decide) ej_1 dX2_workOut_15 ?_
  refine g_icmp_ge (tgt := 203) dX2_workOut_16 (by decide) (fun c_2 => ?_) (fun c_2 => ?_)
  · have h := h.1 c_2
    exact g_sub [0, 2] rfl h
  · have h := h.2 c_2
    refine g_iload_n dX2_workOut_19 rfl ?_
    refine g_bipush (64 : Int32) dX2_workOut_20 rfl ?_
    refine g_icmp_ge (tgt := 203) dX2_workOut_22 (by decide) (fun c_3 => ?_) (fun c_3 => ?_)
    · have h := h.1 c_3
      exact g_sub [0, 2] rfl h
    · have h := h.2 c_3
      refine g_aload_n dX2_workOut_25 rfl ?_
      refine g_gfR fl_2_9 rfl hr0 dX2_workOut_26 ?_
      refine g_iload_n dX2_workOut_29 rfl ?_
      obtain ⟨j_4, hj_4, ej_4, h⟩ := h
      refine g_iald j_4 hr0 rfl hj_4 (by decide) ej_4 dX2_workOut_30 ?_
      refine g_istore dX2_workOut_31 (by decide) (fun x4_5 ex4_5 => g_sub (lv' := [(0, .ref (D.2.2 2 r0)), (1, .int x1), (2, .int x2), (3, .int x3), (4, .int x4_5)]) [1, 2, 3, 4, 0] rfl ?_)
      have h := h x4_5 ex4_5
      refine g_iload dX2_workOut_33 rfl ?_
      refine g_bipush (34 : Int32) dX2_workOut_35 rfl ?_
      refine g_icmp_ne (tgt := 59) dX2_workOut_37 (by decide) (fun c_6 => ?_) (fun c_6 => ?_)
      · have h := h.1 c_6
        refine g_iload dX2_workOut_59 rfl ?_
        refine g_bipush (14 : Int32) dX2_workOut_61 rfl ?_
        refine g_bipush (20 : Int32) dX2_workOut_63 rfl ?_
        obtain ⟨hd_7, h⟩ := h
        refine g_callN ca_X2_50 (c_X9_isWithin (d := 0) (Nat.le_refl _) ) hd_7 (by decide) rfl rfl (by first | exact Nat.le_of_ble_eq_true rfl | decide) dX2_workOut_65 (kI (fun v_8 μ_9 hq_10 => ?_))
        obtain ⟨ev_8, eμ_9⟩ := hq_10
        subst ev_8
        refine g_mem eμ_9 ?_
        refine g_if_eq (tgt := 93) dX2_workOut_68 (by decide) (fun c_11 => ?_) (fun c_11 => ?_)
        · have h := h.1 c_11
          refine g_iload_n dX2_workOut_93 rfl ?_
          refine g_if_le (tgt := 133) dX2_workOut_94 (by decide) (fun c_12 => ?_) (fun c_12 => ?_)
          · have h := h.1 c_12
            exact g_sub [0, 1, 2, 3, 4] rfl h
          · have h := h.2 c_12
            refine g_iload dX2_workOut_97 rfl ?_
            refine g_bipush (13 : Int32) dX2_workOut_99 rfl ?_
            refine g_icmp_ne (tgt := 133) dX2_workOut_101 (by decide) (fun c_13 => ?_) (fun c_13 => ?_)
            · have h := h.1 c_13
              exact g_sub [0, 1, 2, 3, 4] rfl h
            · have h := h.2 c_13
              refine g_aload_n dX2_workOut_104 rfl ?_
              refine g_gfR fl_2_24 rfl hr0 dX2_workOut_105 ?_
              refine g_iload_n dX2_workOut_108 rfl ?_
              refine g_iconst (1 : Int32) dX2_workOut_109 rfl ?_
              refine g_isub dX2_workOut_110 ?_
              refine g_aload_n dX2_workOut_111 rfl ?_
              refine g_gfR fl_2_24 rfl hr0 dX2_workOut_112 ?_
              refine g_iload_n dX2_workOut_115 rfl ?_
              refine g_iconst (1 : Int32) dX2_workOut_116 rfl ?_
              refine g_isub dX2_workOut_117 ?_
              obtain ⟨j_14, hj_14, ej_14, h⟩ := h
              refine g_lald j_14 hr0 rfl hj_14 (by decide) ej_14 dX2_workOut_118 ?_
              refine g_lconst (0 : Int64) dX2_workOut_119 rfl ?_
              refine g_lcmp dX2_workOut_120 ?_
              refine g_if_ne (tgt := 128) dX2_workOut_121 (by decide) (fun c_15 => ?_) (fun c_15 => ?_)
              · have h := h.1 c_15
                refine g_lconst (0 : Int64) dX2_workOut_128 rfl ?_
                exact g_sub [0, 1, 2, 3] rfl h
              · have h := h.2 c_15
                refine g_lconst (1 : Int64) dX2_workOut_124 rfl ?_
                refine g_goto (tgt := 129) dX2_workOut_125 (by decide) ?_
                exact g_sub [0, 1, 2, 3] rfl h
        · have h := h.2 c_11
          refine g_aload_n dX2_workOut_71 rfl ?_
          refine g_gfR fl_2_24 rfl hr0 dX2_workOut_72 ?_
          refine g_iload_n dX2_workOut_75 rfl ?_
          refine g_aload_n dX2_workOut_76 rfl ?_
          refine g_gfR fl_2_28 rfl hr0 dX2_workOut_77 ?_
          refine g_iload dX2_workOut_80 rfl ?_
          refine g_bipush (14 : Int32) dX2_workOut_82 rfl ?_
          refine g_isub dX2_workOut_84 ?_
          obtain ⟨j_16, hj_16, ej_16, h⟩ := h
          refine g_lald j_16 hr0 rfl hj_16 (by decide) ej_16 dX2_workOut_85 ?_
          obtain ⟨j_17, hj_17, ej_17, h⟩ := h
          refine g_last j_17 hr0 rfl hj_17 (by decide) ej_17 dX2_workOut_86 ?_
          obtain ⟨μ_18, eμ_18⟩ : ∃ z : gMem, z = gsL μ 196 r0 j_17 (μ.2.1 197 r0 j_16) := ⟨_, rfl⟩
          have h := h μ_18 eμ_18
          refine g_mem eμ_18.symm ?_
          refine g_iinc dX2_workOut_87 rfl (by decide) (fun x2_19 ex2_19 => g_sub (lv' := [(0, .ref (D.2.2 2 r0)), (1, .int x1), (2, .int x2_19), (3, .int x3)]) [1, 2, 0, 3] rfl ?_)
          have h := h x2_19 ex2_19
          refine g_goto (tgt := 197) dX2_workOut_90 (by decide) ?_
          exact g_sub [0, 1, 2, 3] rfl h
      · have h := h.2 c_6
        refine g_aload_n dX2_workOut_40 rfl ?_
        refine g_gfR fl_2_24 rfl hr0 dX2_workOut_41 ?_
        refine g_iload_n dX2_workOut_44 rfl ?_
        refine g_aload_n dX2_workOut_45 rfl ?_
        refine g_gfR fl_2_15 rfl hr0 dX2_workOut_46 ?_
        refine g_iload_n dX2_workOut_49 rfl ?_
        obtain ⟨j_20, hj_20, ej_20, h⟩ := h
        refine g_iald j_20 hr0 rfl hj_20 (by decide) ej_20 dX2_workOut_50 ?_
        refine g_i2l dX2_workOut_51 ?_
        obtain ⟨j_21, hj_21, ej_21, h⟩ := h
        refine g_last j_21 hr0 rfl hj_21 (by decide) ej_21 dX2_workOut_52 ?_
        obtain ⟨μ_22, eμ_22⟩ : ∃ z : gMem, z = gsL μ 196 r0 j_21 ((μ.1 193 r0 j_20).toInt64) := ⟨_, rfl⟩
        have h := h μ_22 eμ_22
        refine g_mem eμ_22.symm ?_
        refine g_iinc dX2_workOut_53 rfl (by decide) (fun x2_23 ex2_23 => g_sub (lv' := [(0, .ref (D.2.2 2 r0)), (1, .int x1), (2, .int x2_23), (3, .int x3)]) [1, 2, 0, 3] rfl ?_)
        have h := h x2_23 ex2_23
        refine g_goto (tgt := 197) dX2_workOut_56 (by decide) ?_
        exact g_sub [0, 1, 2, 3] rfl h
set_option maxRecDepth 20000 in
set_option maxHeartbeats 4000000 in
theorem bl_X2_workOut_2 {l : Launch} {D : gD} {d : Nat} {q : Int32 → gMem → Prop} {Γ : gC} {r0 : Nat} {x1 : Int32} {x2 : Int32} {x3 : Int32} {rs0 : Nat} {xs1 : Int32} {ls2 : Int64} {μ : gMem} (hr0 : r0 < 2) (hrs0 : rs0 < 2) (h : ∃ j_1 : Nat, j_1 < 64 ∧ xs1 = nI j_1 ∧ (∀ μ_2 : gMem, μ_2 = gsL μ 196 rs0 j_1 ls2 → pt_X2_workOut_4 l D d q Γ r0 x1 x2 x3 μ_2)) : pt_X2_workOut_2 l D d q Γ r0 x1 x2 x3 rs0 xs1 ls2 μ := by
  unfold pt_X2_workOut_2
  obtain ⟨j_1, hj_1, ej_1, h⟩ := h
  refine g_last j_1 hrs0 rfl hj_1 (by decide) ej_1 dX2_workOut_129 ?_
  obtain ⟨μ_2, eμ_2⟩ : ∃ z : gMem, z = gsL μ 196 rs0 j_1 ls2 := ⟨_, rfl⟩
  have h := h μ_2 eμ_2
  refine g_mem eμ_2.symm ?_
  refine g_goto (tgt := 197) dX2_workOut_130 (by decide) ?_
  exact g_sub [0, 1, 2, 3] rfl h
set_option maxRecDepth 20000 in
set_option maxHeartbeats 4000000 in
theorem bl_X2_workOut_3 {l : Launch} {D : gD} {d : Nat} {q : Int32 → gMem → Prop} {Γ : gC} {r0 : Nat} {x1 : Int32} {x2 : Int32} {x3 : Int32} {x4 : Int32} {μ : gMem} (hr0 : r0 < 2) (h : ((x2 ≤ (1 : Int32)) → q (0 : Int32) μ) ∧ ((¬ x2 ≤ (1 : Int32)) → ∃ j_2 : Nat, j_2 < 64 ∧ x2 - (2 : Int32) = nI j_2 ∧ (∃ j_3 : Nat, j_3 < 64 ∧ x2 - (1 : Int32) = nI j_3 ∧ (∃ (d_4 : Nat) (q_5 : Int32 → gMem → Prop), d_4 < d ∧ Ctr l D d_4 yX2_isWorkable cX2_isWorkable 7 (some .boolean) [.int x4, .long (μ.2.1 196 r0 j_2), .long (μ.2.1 196 r0 j_3)] μ (pI q_5) ∧ ∀ (v_9 : Int32) (μ_8 : gMem), q_5 v_9 μ_8 → ((v_9 = 0) → q (0 : Int32) μ_8) ∧ ((¬ v_9 = 0) → ∀ x2_12 : Int32, x2_12 = x2 + (-1 : Int32) → ∃ j_13 : Nat, j_13 < 64 ∧ x2_12 - (1 : Int32) = nI j_13 ∧ (∃ j_14 : Nat, j_14 < 64 ∧ x2_12 = nI j_14 ∧ (∃ (d_15 : Nat) (q_16 : Int64 → gMem → Prop), d_15 < d ∧ Ctr l D d_15 yX2_joined cX2_joined 5 (some .long) [.int x4, .long (μ_8.2.1 196 r0 j_13), .long (μ_8.2.1 196 r0 j_14)] μ_8 (pJ q_16) ∧ ∀ (v_20 : Int64) (μ_19 : gMem), q_16 v_20 μ_19 → ∃ j_22 : Nat, j_22 < 64 ∧ x2_12 - (1 : Int32) = nI j_22 ∧ (∀ μ_23 : gMem, μ_23 = gsL μ_19 196 r0 j_22 v_20 → pt_X2_workOut_4 l D d q Γ r0 x1 x2_12 x3 μ_23)))))))) : pt_X2_workOut_3 l D d q Γ r0 x1 x2 x3 x4 μ := by
  unfold pt_X2_workOut_3
  refine g_iload_n dX2_workOut_133 rfl ?_
  refine g_iconst (1 : Int32) dX2_workOut_134 rfl ?_
  refine g_icmp_le (tgt := 195) dX2_workOut_135 (by decide) (fun c_1 => ?_) (fun c_1 => ?_)
  · have h := h.1 c_1
    refine g_iconst (0 : Int32) dX2_workOut_195 rfl ?_
    exact g_iret dX2_workOut_196 rfl rfl ⟨_, rfl, h⟩
  · have h := h.2 c_1
    refine g_iload dX2_workOut_138 rfl ?_
    refine g_aload_n dX2_workOut_140 rfl ?_
    refine g_gfR fl_2_24 rfl hr0 dX2_workOut_141 ?_
    refine g_iload_n dX2_workOut_144 rfl ?_
    refine g_iconst (2 : Int32) dX2_workOut_145 rfl ?_
    refine g_isub dX2_workOut_146 ?_
    obtain ⟨j_2, hj_2, ej_2, h⟩ := h
    refine g_lald j_2 hr0 rfl hj_2 (by decide) ej_2 dX2_workOut_147 ?_
    refine g_aload_n dX2_workOut_148 rfl ?_
    refine g_gfR fl_2_24 rfl hr0 dX2_workOut_149 ?_
    refine g_iload_n dX2_workOut_152 rfl ?_
    refine g_iconst (1 : Int32) dX2_workOut_153 rfl ?_
    refine g_isub dX2_workOut_154 ?_
    obtain ⟨j_3, hj_3, ej_3, h⟩ := h
    refine g_lald j_3 hr0 rfl hj_3 (by decide) ej_3 dX2_workOut_155 ?_
    obtain ⟨d_4, q_5, hd_6, hc_7, h⟩ := h
    refine g_callS ca_X2_54 hc_7 hd_6 (by decide) rfl rfl (by first | exact Nat.le_of_ble_eq_true rfl | decide) dX2_workOut_156 (kI (fun v_9 μ_8 hq_10 => ?_))
    have h := h v_9 μ_8 hq_10
    refine g_if_eq (tgt := 195) dX2_workOut_159 (by decide) (fun c_11 => ?_) (fun c_11 => ?_)
    · have h := h.1 c_11
      refine g_iconst (0 : Int32) dX2_workOut_195 rfl ?_
      exact g_iret dX2_workOut_196 rfl rfl ⟨_, rfl, h⟩
    · have h := h.2 c_11
      refine g_iinc dX2_workOut_162 rfl (by decide) (fun x2_12 ex2_12 => g_sub (lv' := [(0, .ref (D.2.2 2 r0)), (1, .int x1), (2, .int x2_12), (3, .int x3), (4, .int x4)]) [1, 2, 0, 3, 4] rfl ?_)
      have h := h x2_12 ex2_12
      refine g_aload_n dX2_workOut_165 rfl ?_
      refine g_gfR fl_2_24 rfl hr0 dX2_workOut_166 ?_
      refine g_iload_n dX2_workOut_169 rfl ?_
      refine g_iconst (1 : Int32) dX2_workOut_170 rfl ?_
      refine g_isub dX2_workOut_171 ?_
      refine g_iload dX2_workOut_172 rfl ?_
      refine g_aload_n dX2_workOut_174 rfl ?_
      refine g_gfR fl_2_24 rfl hr0 dX2_workOut_175 ?_
      refine g_iload_n dX2_workOut_178 rfl ?_
      refine g_iconst (1 : Int32) dX2_workOut_179 rfl ?_
      refine g_isub dX2_workOut_180 ?_
      obtain ⟨j_13, hj_13, ej_13, h⟩ := h
      refine g_lald j_13 hr0 rfl hj_13 (by decide) ej_13 dX2_workOut_181 ?_
      refine g_aload_n dX2_workOut_182 rfl ?_
      refine g_gfR fl_2_24 rfl hr0 dX2_workOut_183 ?_
      refine g_iload_n dX2_workOut_186 rfl ?_
      obtain ⟨j_14, hj_14, ej_14, h⟩ := h
      refine g_lald j_14 hr0 rfl hj_14 (by decide) ej_14 dX2_workOut_187 ?_
      obtain ⟨d_15, q_16, hd_17, hc_18, h⟩ := h
      refine g_callS ca_X2_58 hc_18 hd_17 (by decide) rfl rfl (by first | exact Nat.le_of_ble_eq_true rfl | decide) dX2_workOut_188 (kJ (fun v_20 μ_19 hq_21 => ?_))
      have h := h v_20 μ_19 hq_21
      obtain ⟨j_22, hj_22, ej_22, h⟩ := h
      refine g_last j_22 hr0 rfl hj_22 (by decide) ej_22 dX2_workOut_191 ?_
      obtain ⟨μ_23, eμ_23⟩ : ∃ z : gMem, z = gsL μ_19 196 r0 j_22 v_20 := ⟨_, rfl⟩
      have h := h μ_23 eμ_23
      refine g_mem eμ_23.symm ?_
      refine g_goto (tgt := 197) dX2_workOut_192 (by decide) ?_
      exact g_sub [0, 1, 2, 3] rfl h
set_option maxRecDepth 20000 in
set_option maxHeartbeats 4000000 in
theorem bl_X2_workOut_4 {l : Launch} {D : gD} {d : Nat} {q : Int32 → gMem → Prop} {Γ : gC} {r0 : Nat} {x1 : Int32} {x2 : Int32} {x3 : Int32} {μ : gMem} (hr0 : r0 < 2) (h : ∀ x3_1 : Int32, x3_1 = x3 + (1 : Int32) → pt_X2_workOut_1 l D d q Γ r0 x1 x2 x3_1 μ) : pt_X2_workOut_4 l D d q Γ r0 x1 x2 x3 μ := by
  unfold pt_X2_workOut_4
  refine g_iinc dX2_workOut_197 rfl (by decide) (fun x3_1 ex3_1 => g_sub (lv' := [(0, .ref (D.2.2 2 r0)), (1, .int x1), (2, .int x2), (3, .int x3_1)]) [1, 2, 3, 0] rfl ?_)
  have h := h x3_1 ex3_1
  refine g_goto (tgt := 9) dX2_workOut_200 (by decide) ?_
  exact g_sub [0, 1, 2, 3] rfl h
set_option maxRecDepth 20000 in
set_option maxHeartbeats 4000000 in
theorem bl_X2_workOut_5 {l : Launch} {D : gD} {d : Nat} {q : Int32 → gMem → Prop} {Γ : gC} {r0 : Nat} {x2 : Int32} {μ : gMem} (hr0 : r0 < 2) (h : ∀ μ_2 : gMem, μ_2 = gsL μ 2 r0 9 (μ.2.1 196 r0 0) → ((¬ x2 = (1 : Int32)) → q (0 : Int32) μ_2) ∧ ((x2 = (1 : Int32)) → q (1 : Int32) μ_2)) : pt_X2_workOut_5 l D d q Γ r0 x2 μ := by
  unfold pt_X2_workOut_5
  refine g_aload_n dX2_workOut_203 rfl ?_
  refine g_aload_n dX2_workOut_204 rfl ?_
  refine g_gfR fl_2_24 rfl hr0 dX2_workOut_205 ?_
  refine g_iconst (0 : Int32) dX2_workOut_208 rfl ?_
  refine g_lald 0 hr0 rfl (by decide) (by decide) rfl dX2_workOut_209 ?_
  refine g_pfJ fi_2_62 hr0 dX2_workOut_210 ?_
  obtain ⟨μ_2, eμ_2⟩ : ∃ z : gMem, z = gsL μ 2 r0 9 (μ.2.1 196 r0 0) := ⟨_, rfl⟩
  have h := h μ_2 eμ_2
  refine g_mem eμ_2.symm ?_
  refine g_iload_n dX2_workOut_213 rfl ?_
  refine g_iconst (1 : Int32) dX2_workOut_214 rfl ?_
  refine g_icmp_ne (tgt := 222) dX2_workOut_215 (by decide) (fun c_3 => ?_) (fun c_3 => ?_)
  · have h := h.1 c_3
    refine g_iconst (0 : Int32) dX2_workOut_222 rfl ?_
    exact g_iret dX2_workOut_223 rfl rfl ⟨_, rfl, h⟩
  · have h := h.2 c_3
    refine g_iconst (1 : Int32) dX2_workOut_218 rfl ?_
    refine g_goto (tgt := 223) dX2_workOut_219 (by decide) ?_
    exact g_iret dX2_workOut_223 rfl rfl ⟨_, rfl, h⟩
theorem en_X2_workOut {l : Launch} {D : gD} {d : Nat} {q : Int32 → gMem → Prop} {r0 : Nat} {x1 : Int32} {μ : gMem} (h : ∀ Γ : gC, pt_X2_workOut_0 l D d q Γ r0 x1 μ) : Ctr l D d yX2_workOut cX2_workOut 5 (some .boolean) [.ref (D.2.2 2 r0), .int x1] μ (pI q) :=
  Ctr_of rfl (by decide) (Nat.le_of_ble_eq_true rfl) (fun Γ => g_sub [0, 1] rfl (h Γ))
def pt_X2_isWorkable_0 (l : Launch) (D : gD) (d : Nat) (q : Int32 → gMem → Prop) (Γ : gC) (x0 : Int32) (l1 : Int64) (l3 : Int64) (μ : gMem) : Prop := G l D RX2 cX2_isWorkable 7 (some .boolean) d (pI q) Γ 0 [(0, .int x0), (1, .long l1), (3, .long l3)] [] μ
def pt_X2_isWorkable_1 (l : Launch) (D : gD) (d : Nat) (q : Int32 → gMem → Prop) (Γ : gC) (l3 : Int64) (ls0 : Int64) (ls1 : Int64) (μ : gMem) : Prop := G l D RX2 cX2_isWorkable 7 (some .boolean) d (pI q) Γ 111 [(3, .long l3)] [.long ls1, .long ls0] μ
def pt_X2_isWorkable_2 (l : Launch) (D : gD) (d : Nat) (q : Int32 → gMem → Prop) (Γ : gC) (l3 : Int64) (ls0 : Int64) (μ : gMem) : Prop := G l D RX2 cX2_isWorkable 7 (some .boolean) d (pI q) Γ 112 [(3, .long l3)] [.long ls0] μ
set_option maxRecDepth 20000 in
set_option maxHeartbeats 4000000 in
theorem bl_X2_isWorkable_0 {l : Launch} {D : gD} {d : Nat} {q : Int32 → gMem → Prop} {Γ : gC} {x0 : Int32} {l1 : Int64} {l3 : Int64} {μ : gMem}  (h : (x0 = (27 : Int32) → ((0 < (lg_cmp (l1 + l3) (1000000000000 : Int64))) → q (0 : Int32) μ) ∧ ((¬ 0 < (lg_cmp (l1 + l3) (1000000000000 : Int64))) → (((lg_cmp (l1 + l3) (-1000000000000 : Int64)) < 0) → q (0 : Int32) μ) ∧ ((¬ (lg_cmp (l1 + l3) (-1000000000000 : Int64)) < 0) → q (1 : Int32) μ))) ∧ (x0 = (28 : Int32) → ((0 < (lg_cmp (l1 - l3) (1000000000000 : Int64))) → q (0 : Int32) μ) ∧ ((¬ 0 < (lg_cmp (l1 - l3) (1000000000000 : Int64))) → (((lg_cmp (l1 - l3) (-1000000000000 : Int64)) < 0) → q (0 : Int32) μ) ∧ ((¬ (lg_cmp (l1 - l3) (-1000000000000 : Int64)) < 0) → q (1 : Int32) μ))) ∧ (x0 = (29 : Int32) → ((¬ (lg_cmp l1 (0 : Int64)) = 0) → ((0 ≤ (lg_cmp l1 (0 : Int64))) → pt_X2_isWorkable_1 l D d q Γ l3 (1000000000000 : Int64) l1 μ) ∧ ((¬ 0 ≤ (lg_cmp l1 (0 : Int64))) → pt_X2_isWorkable_1 l D d q Γ l3 (1000000000000 : Int64) (-l1) μ)) ∧ (((lg_cmp l1 (0 : Int64)) = 0) → pt_X2_isWorkable_2 l D d q Γ l3 (1000000000000 : Int64) μ)) ∧ (x0 = (30 : Int32) → (((lg_cmp l3 (0 : Int64)) = 0) → q (0 : Int32) μ) ∧ ((¬ (lg_cmp l3 (0 : Int64)) = 0) → q (1 : Int32) μ)) ∧ ((¬ x0 = (27 : Int32) ∧ ¬ x0 = (28 : Int32) ∧ ¬ x0 = (29 : Int32) ∧ ¬ x0 = (30 : Int32)) → q (1 : Int32) μ)) : pt_X2_isWorkable_0 l D d q Γ x0 l1 l3 μ := by
  unfold pt_X2_isWorkable_0
  refine g_iload_n dX2_isWorkable_0 rfl ?_
  by_cases c_1_27 : x0 = (27 : Int32)
  · refine g_tableIn (off := 31) (tgt := 32) dX2_isWorkable_1 (by rw [c_1_27]; decide) (by rw [c_1_27]; decide) (by rw [c_1_27]; rfl) (by decide) ?_
    have h := h.1 c_1_27
    refine g_lload_n dX2_isWorkable_32 rfl ?_
    refine g_lload_n dX2_isWorkable_33 rfl ?_
    refine g_ladd dX2_isWorkable_34 ?_
    refine g_ldc2 kc_X2_66 dX2_isWorkable_35 ?_
    refine g_lcmp dX2_isWorkable_38 ?_
    refine g_if_gt (tgt := 56) dX2_isWorkable_39 (by decide) (fun c_2 => ?_) (fun c_2 => ?_)
    · have h := h.1 c_2
      refine g_iconst (0 : Int32) dX2_isWorkable_56 rfl ?_
      exact g_iret dX2_isWorkable_57 rfl rfl ⟨_, rfl, h⟩
    · have h := h.2 c_2
      refine g_lload_n dX2_isWorkable_42 rfl ?_
      refine g_lload_n dX2_isWorkable_43 rfl ?_
      refine g_ladd dX2_isWorkable_44 ?_
      refine g_ldc2 kc_X2_68 dX2_isWorkable_45 ?_
      refine g_lcmp dX2_isWorkable_48 ?_
      refine g_if_lt (tgt := 56) dX2_isWorkable_49 (by decide) (fun c_3 => ?_) (fun c_3 => ?_)
      · have h := h.1 c_3
        refine g_iconst (0 : Int32) dX2_isWorkable_56 rfl ?_
        exact g_iret dX2_isWorkable_57 rfl rfl ⟨_, rfl, h⟩
      · have h := h.2 c_3
        refine g_iconst (1 : Int32) dX2_isWorkable_52 rfl ?_
        refine g_goto (tgt := 57) dX2_isWorkable_53 (by decide) ?_
        exact g_iret dX2_isWorkable_57 rfl rfl ⟨_, rfl, h⟩
  by_cases c_1_28 : x0 = (28 : Int32)
  · refine g_tableIn (off := 57) (tgt := 58) dX2_isWorkable_1 (by rw [c_1_28]; decide) (by rw [c_1_28]; decide) (by rw [c_1_28]; rfl) (by decide) ?_
    have h := h.2.1 c_1_28
    refine g_lload_n dX2_isWorkable_58 rfl ?_
    refine g_lload_n dX2_isWorkable_59 rfl ?_
    refine g_lsub dX2_isWorkable_60 ?_
    refine g_ldc2 kc_X2_66 dX2_isWorkable_61 ?_
    refine g_lcmp dX2_isWorkable_64 ?_
    refine g_if_gt (tgt := 82) dX2_isWorkable_65 (by decide) (fun c_4 => ?_) (fun c_4 => ?_)
    · have h := h.1 c_4
      refine g_iconst (0 : Int32) dX2_isWorkable_82 rfl ?_
      exact g_iret dX2_isWorkable_83 rfl rfl ⟨_, rfl, h⟩
    · have h := h.2 c_4
      refine g_lload_n dX2_isWorkable_68 rfl ?_
      refine g_lload_n dX2_isWorkable_69 rfl ?_
      refine g_lsub dX2_isWorkable_70 ?_
      refine g_ldc2 kc_X2_68 dX2_isWorkable_71 ?_
      refine g_lcmp dX2_isWorkable_74 ?_
      refine g_if_lt (tgt := 82) dX2_isWorkable_75 (by decide) (fun c_5 => ?_) (fun c_5 => ?_)
      · have h := h.1 c_5
        refine g_iconst (0 : Int32) dX2_isWorkable_82 rfl ?_
        exact g_iret dX2_isWorkable_83 rfl rfl ⟨_, rfl, h⟩
      · have h := h.2 c_5
        refine g_iconst (1 : Int32) dX2_isWorkable_78 rfl ?_
        refine g_goto (tgt := 83) dX2_isWorkable_79 (by decide) ?_
        exact g_iret dX2_isWorkable_83 rfl rfl ⟨_, rfl, h⟩
  by_cases c_1_29 : x0 = (29 : Int32)
  · refine g_tableIn (off := 83) (tgt := 84) dX2_isWorkable_1 (by rw [c_1_29]; decide) (by rw [c_1_29]; decide) (by rw [c_1_29]; rfl) (by decide) ?_
    have h := h.2.2.1 c_1_29
    refine g_lload_n dX2_isWorkable_84 rfl ?_
    refine g_lconst (0 : Int64) dX2_isWorkable_85 rfl ?_
    refine g_lcmp dX2_isWorkable_86 ?_
    refine g_if_ne (tgt := 96) dX2_isWorkable_87 (by decide) (fun c_6 => ?_) (fun c_6 => ?_)
    · have h := h.1 c_6
      refine g_ldc2 kc_X2_66 dX2_isWorkable_96 ?_
      refine g_lload_n dX2_isWorkable_99 rfl ?_
      refine g_lconst (0 : Int64) dX2_isWorkable_100 rfl ?_
      refine g_lcmp dX2_isWorkable_101 ?_
      refine g_if_ge (tgt := 110) dX2_isWorkable_102 (by decide) (fun c_7 => ?_) (fun c_7 => ?_)
      · have h := h.1 c_7
        refine g_lload_n dX2_isWorkable_110 rfl ?_
        exact g_sub [2] rfl h
      · have h := h.2 c_7
        refine g_lload_n dX2_isWorkable_105 rfl ?_
        refine g_lneg dX2_isWorkable_106 ?_
        refine g_goto (tgt := 111) dX2_isWorkable_107 (by decide) ?_
        exact g_sub [2] rfl h
    · have h := h.2 c_6
      refine g_ldc2 kc_X2_66 dX2_isWorkable_90 ?_
      refine g_goto (tgt := 112) dX2_isWorkable_93 (by decide) ?_
      exact g_sub [2] rfl h
  by_cases c_1_30 : x0 = (30 : Int32)
  · refine g_tableIn (off := 134) (tgt := 135) dX2_isWorkable_1 (by rw [c_1_30]; decide) (by rw [c_1_30]; decide) (by rw [c_1_30]; rfl) (by decide) ?_
    have h := h.2.2.2.1 c_1_30
    refine g_lload_n dX2_isWorkable_135 rfl ?_
    refine g_lconst (0 : Int64) dX2_isWorkable_136 rfl ?_
    refine g_lcmp dX2_isWorkable_137 ?_
    refine g_if_eq (tgt := 145) dX2_isWorkable_138 (by decide) (fun c_8 => ?_) (fun c_8 => ?_)
    · have h := h.1 c_8
      refine g_iconst (0 : Int32) dX2_isWorkable_145 rfl ?_
      exact g_iret dX2_isWorkable_146 rfl rfl ⟨_, rfl, h⟩
    · have h := h.2 c_8
      refine g_iconst (1 : Int32) dX2_isWorkable_141 rfl ?_
      refine g_goto (tgt := 146) dX2_isWorkable_142 (by decide) ?_
      exact g_iret dX2_isWorkable_146 rfl rfl ⟨_, rfl, h⟩
  have c_1_o : (x0).toInt < 27 ∨ 30 < (x0).toInt := by
    have := lv_neT c_1_27 (a := 27) rfl
    have := lv_neT c_1_28 (a := 28) rfl
    have := lv_neT c_1_29 (a := 29) rfl
    have := lv_neT c_1_30 (a := 30) rfl
    omega
  refine g_tableOut (tgt := 147) dX2_isWorkable_1 c_1_o (by decide) ?_
  have h := h.2.2.2.2 ⟨c_1_27, c_1_28, c_1_29, c_1_30⟩
  refine g_iconst (1 : Int32) dX2_isWorkable_147 rfl ?_
  exact g_iret dX2_isWorkable_148 rfl rfl ⟨_, rfl, h⟩
set_option maxRecDepth 20000 in
set_option maxHeartbeats 4000000 in
theorem bl_X2_isWorkable_1 {l : Launch} {D : gD} {d : Nat} {q : Int32 → gMem → Prop} {Γ : gC} {l3 : Int64} {ls0 : Int64} {ls1 : Int64} {μ : gMem}  (h : (¬ ls1 = 0) ∧ (pt_X2_isWorkable_2 l D d q Γ l3 (ls0 / ls1) μ)) : pt_X2_isWorkable_1 l D d q Γ l3 ls0 ls1 μ := by
  unfold pt_X2_isWorkable_1
  obtain ⟨nz_1, h⟩ := h
  refine g_ldiv dX2_isWorkable_111 nz_1 ?_
  exact g_sub [0] rfl h
set_option maxRecDepth 20000 in
set_option maxHeartbeats 4000000 in
theorem bl_X2_isWorkable_2 {l : Launch} {D : gD} {d : Nat} {q : Int32 → gMem → Prop} {Γ : gC} {l3 : Int64} {ls0 : Int64} {μ : gMem}  (h : ∀ l5_1 : Int64, l5_1 = ls0 → ((0 < (lg_cmp l3 l5_1)) → q (0 : Int32) μ) ∧ ((¬ 0 < (lg_cmp l3 l5_1)) → (((lg_cmp l3 (-l5_1)) < 0) → q (0 : Int32) μ) ∧ ((¬ (lg_cmp l3 (-l5_1)) < 0) → q (1 : Int32) μ))) : pt_X2_isWorkable_2 l D d q Γ l3 ls0 μ := by
  unfold pt_X2_isWorkable_2
  refine g_lstore dX2_isWorkable_112 (by decide) (fun l5_1 el5_1 => g_sub (lv' := [(3, .long l3), (5, .long l5_1)]) [1, 0] rfl ?_)
  have h := h l5_1 el5_1
  refine g_lload_n dX2_isWorkable_114 rfl ?_
  refine g_lload dX2_isWorkable_115 rfl ?_
  refine g_lcmp dX2_isWorkable_117 ?_
  refine g_if_gt (tgt := 133) dX2_isWorkable_118 (by decide) (fun c_2 => ?_) (fun c_2 => ?_)
  · have h := h.1 c_2
    refine g_iconst (0 : Int32) dX2_isWorkable_133 rfl ?_
    exact g_iret dX2_isWorkable_134 rfl rfl ⟨_, rfl, h⟩
  · have h := h.2 c_2
    refine g_lload_n dX2_isWorkable_121 rfl ?_
    refine g_lload dX2_isWorkable_122 rfl ?_
    refine g_lneg dX2_isWorkable_124 ?_
    refine g_lcmp dX2_isWorkable_125 ?_
    refine g_if_lt (tgt := 133) dX2_isWorkable_126 (by decide) (fun c_3 => ?_) (fun c_3 => ?_)
    · have h := h.1 c_3
      refine g_iconst (0 : Int32) dX2_isWorkable_133 rfl ?_
      exact g_iret dX2_isWorkable_134 rfl rfl ⟨_, rfl, h⟩
    · have h := h.2 c_3
      refine g_iconst (1 : Int32) dX2_isWorkable_129 rfl ?_
      refine g_goto (tgt := 134) dX2_isWorkable_130 (by decide) ?_
      exact g_iret dX2_isWorkable_134 rfl rfl ⟨_, rfl, h⟩
theorem en_X2_isWorkable {l : Launch} {D : gD} {d : Nat} {q : Int32 → gMem → Prop} {x0 : Int32} {l1 : Int64} {l3 : Int64} {μ : gMem} (h : ∀ Γ : gC, pt_X2_isWorkable_0 l D d q Γ x0 l1 l3 μ) : Ctr l D d yX2_isWorkable cX2_isWorkable 7 (some .boolean) [.int x0, .long l1, .long l3] μ (pI q) :=
  Ctr_of rfl (by decide) (Nat.le_of_ble_eq_true rfl) (fun Γ => g_sub [0, 1, 2] rfl (h Γ))
