def pt_X10_starts_0 (l : Launch) (D : gD) (d : Nat) (q : gMem → Prop) (Γ : gC) (r0 : Nat) (x1 : Int32) (μ : gMem) : Prop := G l D RX10 cX10_starts 5 none d (pV q) Γ 0 [(0, .ref (D.2.2 10 r0)), (1, .int x1)] [] μ
def pt_X10_starts_1 (l : Launch) (D : gD) (d : Nat) (q : gMem → Prop) (Γ : gC) (r0 : Nat) (x1 : Int32) (x2 : Int32) (μ : gMem) : Prop := G l D RX10 cX10_starts 5 none d (pV q) Γ 29 [(0, .ref (D.2.2 10 r0)), (1, .int x1), (2, .int x2)] [] μ
def pt_X10_starts_2 (l : Launch) (D : gD) (d : Nat) (q : gMem → Prop) (Γ : gC) (r0 : Nat) (x1 : Int32) (x2 : Int32) (x3 : Int32) (xs0 : Int32) (μ : gMem) : Prop := G l D RX10 cX10_starts 5 none d (pV q) Γ 55 [(0, .ref (D.2.2 10 r0)), (1, .int x1), (2, .int x2), (3, .int x3)] [.int xs0] μ
def pt_X10_starts_3 (l : Launch) (D : gD) (d : Nat) (q : gMem → Prop) (Γ : gC) (r0 : Nat) (x1 : Int32) (x2 : Int32) (x3 : Int32) (x4 : Int32) (rs0 : Nat) (xs1 : Int32) (xs2 : Int32) (μ : gMem) : Prop := G l D RX10 cX10_starts 5 none d (pV q) Γ 77 [(0, .ref (D.2.2 10 r0)), (1, .int x1), (2, .int x2), (3, .int x3), (4, .int x4)] [.int xs2, .int xs1, .ref (D.2.2 740 rs0)] μ
def pt_X10_starts_4 (l : Launch) (D : gD) (d : Nat) (q : gMem → Prop) (Γ : gC) (r0 : Nat) (x1 : Int32) (x2 : Int32) (x3 : Int32) (rs0 : Nat) (xs1 : Int32) (xs2 : Int32) (μ : gMem) : Prop := G l D RX10 cX10_starts 5 none d (pV q) Γ 98 [(0, .ref (D.2.2 10 r0)), (1, .int x1), (2, .int x2), (3, .int x3)] [.int xs2, .int xs1, .ref (D.2.2 741 rs0)] μ
def pt_X10_starts_5 (l : Launch) (D : gD) (d : Nat) (q : gMem → Prop) (Γ : gC) (r0 : Nat) (x1 : Int32) (x2 : Int32) (μ : gMem) : Prop := G l D RX10 cX10_starts 5 none d (pV q) Γ 170 [(0, .ref (D.2.2 10 r0)), (1, .int x1), (2, .int x2)] [] μ
set_option maxRecDepth 20000 in
set_option maxHeartbeats 4000000 in
theorem bl_X10_starts_0 {l : Launch} {D : gD} {d : Nat} {q : gMem → Prop} {Γ : gC} {r0 : Nat} {x1 : Int32} {μ : gMem} (hr0 : r0 < 1) (h : ∃ j_1 : Nat, j_1 < 23 ∧ x1 = nI j_1 ∧ (∀ μ_2 : gMem, μ_2 = gsI μ 737 r0 j_1 (0 : Int32) → ∃ j_3 : Nat, j_3 < 23 ∧ x1 = nI j_3 ∧ (∀ μ_4 : gMem, μ_4 = gsI μ_2 738 r0 j_3 (0 : Int32) → ∃ j_6 : Nat, j_6 < 23 ∧ x1 = nI j_6 ∧ (∀ μ_7 : gMem, μ_7 = gsI μ_4 739 r0 j_6 (μ_4.1 707 r0 8) → ∀ x2_8 : Int32, x2_8 = (0 : Int32) → pt_X10_starts_1 l D d q Γ r0 x1 x2_8 μ_7)))) : pt_X10_starts_0 l D d q Γ r0 x1 μ := by
  unfold pt_X10_starts_0
  refine g_aload_n dX10_starts_0 rfl ?_
  refine g_gfR fl_10_66 rfl hr0 dX10_starts_1 ?_
  refine g_iload_n dX10_starts_4 rfl ?_
  refine g_iconst (0 : Int32) dX10_starts_5 rfl ?_
  obtain ⟨j_1, hj_1, ej_1, h⟩ := h
  refine g_iast j_1 hr0 rfl hj_1 (by decide) ej_1 dX10_starts_6 ?_
  obtain ⟨μ_2, eμ_2⟩ : ∃ z : gMem, z = gsI μ 737 r0 j_1 (0 : Int32) := ⟨_, rfl⟩
  have h := h μ_2 eμ_2
  refine g_mem eμ_2.symm ?_
  refine g_aload_n dX10_starts_7 rfl ?_
  refine g_gfR fl_10_69 rfl hr0 dX10_starts_8 ?_
  refine g_iload_n dX10_starts_11 rfl ?_
  refine g_iconst (0 : Int32) dX10_starts_12 rfl ?_
  obtain ⟨j_3, hj_3, ej_3, h⟩ := h
  refine g_iast j_3 hr0 rfl hj_3 (by decide) ej_3 dX10_starts_13 ?_
  obtain ⟨μ_4, eμ_4⟩ : ∃ z : gMem, z = gsI μ_2 738 r0 j_3 (0 : Int32) := ⟨_, rfl⟩
  have h := h μ_4 eμ_4
  refine g_mem eμ_4.symm ?_
  refine g_aload_n dX10_starts_14 rfl ?_
  refine g_gfR fl_10_72 rfl hr0 dX10_starts_15 ?_
  refine g_iload_n dX10_starts_18 rfl ?_
  refine g_aload_n dX10_starts_19 rfl ?_
  refine g_gfR fl_10_13 rfl hr0 dX10_starts_20 ?_
  refine g_bipush (8 : Int32) dX10_starts_23 rfl ?_
  refine g_iald 8 hr0 rfl (by decide) (by decide) rfl dX10_starts_25 ?_
  obtain ⟨j_6, hj_6, ej_6, h⟩ := h
  refine g_iast j_6 hr0 rfl hj_6 (by decide) ej_6 dX10_starts_26 ?_
  obtain ⟨μ_7, eμ_7⟩ : ∃ z : gMem, z = gsI μ_4 739 r0 j_6 (μ_4.1 707 r0 8) := ⟨_, rfl⟩
  have h := h μ_7 eμ_7
  refine g_mem eμ_7.symm ?_
  refine g_iconst (0 : Int32) dX10_starts_27 rfl ?_
  refine g_istore_n dX10_starts_28 (by decide) (fun x2_8 ex2_8 => g_sub (lv' := [(0, .ref (D.2.2 10 r0)), (1, .int x1), (2, .int x2_8)]) [1, 2, 0] rfl ?_)
  have h := h x2_8 ex2_8
  exact g_sub [0, 1, 2] rfl h
set_option maxRecDepth 20000 in
set_option maxHeartbeats 4000000 in
theorem bl_X10_starts_1 {l : Launch} {D : gD} {d : Nat} {q : gMem → Prop} {Γ : gC} {r0 : Nat} {x1 : Int32} {x2 : Int32} {μ : gMem} (hr0 : r0 < 1) (h : (((5 : Int32) ≤ x2) → ∀ x2_2 : Int32, x2_2 = (0 : Int32) → pt_X10_starts_5 l D d q Γ r0 x1 x2_2 μ) ∧ ((¬ (5 : Int32) ≤ x2) → ∀ x3_3 : Int32, x3_3 = ((5 : Int32) * x1) + x2 → (((μ.1 707 r0 0) ≤ x2) → pt_X10_starts_2 l D d q Γ r0 x1 x2 x3_3 (0 : Int32) μ) ∧ ((¬ (μ.1 707 r0 0) ≤ x2) → pt_X10_starts_2 l D d q Γ r0 x1 x2 x3_3 (1 : Int32) μ))) : pt_X10_starts_1 l D d q Γ r0 x1 x2 μ := by
  unfold pt_X10_starts_1
  refine g_iload_n dX10_starts_29 rfl ?_
  refine g_iconst (5 : Int32) dX10_starts_30 rfl ?_
  refine g_icmp_ge (tgt := 168) dX10_starts_31 (by decide) (fun c_1 => ?_) (fun c_1 => ?_)
  · have h := h.1 c_1
    refine g_iconst (0 : Int32) dX10_starts_168 rfl ?_
    refine g_istore_n dX10_starts_169 (by decide) (fun x2_2 ex2_2 => g_sub (lv' := [(0, .ref (D.2.2 10 r0)), (1, .int x1), (2, .int x2_2)]) [1, 2, 0] rfl ?_)
    have h := h x2_2 ex2_2
    exact g_sub [0, 1, 2] rfl h
  · have h := h.2 c_1
    refine g_iconst (5 : Int32) dX10_starts_34 rfl ?_
    refine g_iload_n dX10_starts_35 rfl ?_
    refine g_imul dX10_starts_36 ?_
    refine g_iload_n dX10_starts_37 rfl ?_
    refine g_iadd dX10_starts_38 ?_
    refine g_istore_n dX10_starts_39 (by decide) (fun x3_3 ex3_3 => g_sub (lv' := [(0, .ref (D.2.2 10 r0)), (1, .int x1), (2, .int x2), (3, .int x3_3)]) [1, 2, 3, 0] rfl ?_)
    have h := h x3_3 ex3_3
    refine g_iload_n dX10_starts_40 rfl ?_
    refine g_aload_n dX10_starts_41 rfl ?_
    refine g_gfR fl_10_13 rfl hr0 dX10_starts_42 ?_
    refine g_iconst (0 : Int32) dX10_starts_45 rfl ?_
    refine g_iald 0 hr0 rfl (by decide) (by decide) rfl dX10_starts_46 ?_
    refine g_icmp_ge (tgt := 54) dX10_starts_47 (by decide) (fun c_5 => ?_) (fun c_5 => ?_)
    · have h := h.1 c_5
      refine g_iconst (0 : Int32) dX10_starts_54 rfl ?_
      exact g_sub [0, 1, 2, 3] rfl h
    · have h := h.2 c_5
      refine g_iconst (1 : Int32) dX10_starts_50 rfl ?_
      refine g_goto (tgt := 55) dX10_starts_51 (by decide) ?_
      exact g_sub [0, 1, 2, 3] rfl h
set_option maxRecDepth 20000 in
set_option maxHeartbeats 4000000 in
theorem bl_X10_starts_2 {l : Launch} {D : gD} {d : Nat} {q : gMem → Prop} {Γ : gC} {r0 : Nat} {x1 : Int32} {x2 : Int32} {x3 : Int32} {xs0 : Int32} {μ : gMem} (hr0 : r0 < 1) (h : ∀ x4_1 : Int32, x4_1 = xs0 → ((x4_1 = 0) → pt_X10_starts_3 l D d q Γ r0 x1 x2 x3 x4_1 r0 x3 (0 : Int32) μ) ∧ ((¬ x4_1 = 0) → ∃ j_3 : Nat, j_3 < 10 ∧ x2 = nI j_3 ∧ (pt_X10_starts_3 l D d q Γ r0 x1 x2 x3 x4_1 r0 x3 (μ.1 709 r0 j_3) μ))) : pt_X10_starts_2 l D d q Γ r0 x1 x2 x3 xs0 μ := by
  unfold pt_X10_starts_2
  refine g_istore dX10_starts_55 (by decide) (fun x4_1 ex4_1 => g_sub (lv' := [(0, .ref (D.2.2 10 r0)), (1, .int x1), (2, .int x2), (3, .int x3), (4, .int x4_1)]) [1, 2, 3, 4, 0] rfl ?_)
  have h := h x4_1 ex4_1
  refine g_aload_n dX10_starts_57 rfl ?_
  refine g_gfR fl_10_75 rfl hr0 dX10_starts_58 ?_
  refine g_iload_n dX10_starts_61 rfl ?_
  refine g_iload dX10_starts_62 rfl ?_
  refine g_if_eq (tgt := 76) dX10_starts_64 (by decide) (fun c_2 => ?_) (fun c_2 => ?_)
  · have h := h.1 c_2
    refine g_iconst (0 : Int32) dX10_starts_76 rfl ?_
    exact g_sub [0, 1, 2, 3, 4] rfl h
  · have h := h.2 c_2
    refine g_aload_n dX10_starts_67 rfl ?_
    refine g_gfR fl_10_19 rfl hr0 dX10_starts_68 ?_
    refine g_iload_n dX10_starts_71 rfl ?_
    obtain ⟨j_3, hj_3, ej_3, h⟩ := h
    refine g_iald j_3 hr0 rfl hj_3 (by decide) ej_3 dX10_starts_72 ?_
    refine g_goto (tgt := 77) dX10_starts_73 (by decide) ?_
    exact g_sub [0, 1, 2, 3, 4] rfl h
set_option maxRecDepth 20000 in
set_option maxHeartbeats 4000000 in
theorem bl_X10_starts_3 {l : Launch} {D : gD} {d : Nat} {q : gMem → Prop} {Γ : gC} {r0 : Nat} {x1 : Int32} {x2 : Int32} {x3 : Int32} {x4 : Int32} {rs0 : Nat} {xs1 : Int32} {xs2 : Int32} {μ : gMem} (hr0 : r0 < 1) (hrs0 : rs0 < 1) (h : ∃ j_1 : Nat, j_1 < 115 ∧ xs1 = nI j_1 ∧ (∀ μ_2 : gMem, μ_2 = gsI μ 740 rs0 j_1 xs2 → ((x4 = 0) → pt_X10_starts_4 l D d q Γ r0 x1 x2 x3 r0 x3 (0 : Int32) μ_2) ∧ ((¬ x4 = 0) → ∃ j_4 : Nat, j_4 < 10 ∧ x2 = nI j_4 ∧ (pt_X10_starts_4 l D d q Γ r0 x1 x2 x3 r0 x3 (μ_2.1 710 r0 j_4) μ_2)))) : pt_X10_starts_3 l D d q Γ r0 x1 x2 x3 x4 rs0 xs1 xs2 μ := by
  unfold pt_X10_starts_3
  obtain ⟨j_1, hj_1, ej_1, h⟩ := h
  refine g_iast j_1 hrs0 rfl hj_1 (by decide) ej_1 dX10_starts_77 ?_
  obtain ⟨μ_2, eμ_2⟩ : ∃ z : gMem, z = gsI μ 740 rs0 j_1 xs2 := ⟨_, rfl⟩
  have h := h μ_2 eμ_2
  refine g_mem eμ_2.symm ?_
  refine g_aload_n dX10_starts_78 rfl ?_
  refine g_gfR fl_10_78 rfl hr0 dX10_starts_79 ?_
  refine g_iload_n dX10_starts_82 rfl ?_
  refine g_iload dX10_starts_83 rfl ?_
  refine g_if_eq (tgt := 97) dX10_starts_85 (by decide) (fun c_3 => ?_) (fun c_3 => ?_)
  · have h := h.1 c_3
    refine g_iconst (0 : Int32) dX10_starts_97 rfl ?_
    exact g_sub [0, 1, 2, 3] rfl h
  · have h := h.2 c_3
    refine g_aload_n dX10_starts_88 rfl ?_
    refine g_gfR fl_10_22 rfl hr0 dX10_starts_89 ?_
    refine g_iload_n dX10_starts_92 rfl ?_
    obtain ⟨j_4, hj_4, ej_4, h⟩ := h
    refine g_iald j_4 hr0 rfl hj_4 (by decide) ej_4 dX10_starts_93 ?_
    refine g_goto (tgt := 98) dX10_starts_94 (by decide) ?_
    exact g_sub [0, 1, 2, 3] rfl h
set_option maxRecDepth 20000 in
set_option maxHeartbeats 4000000 in
theorem bl_X10_starts_4 {l : Launch} {D : gD} {d : Nat} {q : gMem → Prop} {Γ : gC} {r0 : Nat} {x1 : Int32} {x2 : Int32} {x3 : Int32} {rs0 : Nat} {xs1 : Int32} {xs2 : Int32} {μ : gMem} (hr0 : r0 < 1) (hrs0 : rs0 < 1) (h : ∃ j_1 : Nat, j_1 < 115 ∧ xs1 = nI j_1 ∧ (∀ μ_2 : gMem, μ_2 = gsI μ 741 rs0 j_1 xs2 → ∃ j_3 : Nat, j_3 < 115 ∧ x3 = nI j_3 ∧ (∀ μ_4 : gMem, μ_4 = gsI μ_2 742 r0 j_3 (0 : Int32) → ∃ j_5 : Nat, j_5 < 115 ∧ x3 = nI j_5 ∧ (∀ μ_6 : gMem, μ_6 = gsI μ_4 743 r0 j_5 (0 : Int32) → ∃ j_7 : Nat, j_7 < 115 ∧ x3 = nI j_7 ∧ (∀ μ_8 : gMem, μ_8 = gsI μ_6 744 r0 j_7 (0 : Int32) → ∃ j_9 : Nat, j_9 < 115 ∧ x3 = nI j_9 ∧ (∀ μ_10 : gMem, μ_10 = gsI μ_8 745 r0 j_9 (0 : Int32) → ∃ j_11 : Nat, j_11 < 115 ∧ x3 = nI j_11 ∧ (∀ μ_12 : gMem, μ_12 = gsI μ_10 746 r0 j_11 (0 : Int32) → ∃ j_13 : Nat, j_13 < 115 ∧ x3 = nI j_13 ∧ (∀ μ_14 : gMem, μ_14 = gsI μ_12 747 r0 j_13 (1 : Int32) → ∃ j_15 : Nat, j_15 < 115 ∧ x3 = nI j_15 ∧ (∀ μ_16 : gMem, μ_16 = gsI μ_14 748 r0 j_15 (0 : Int32) → ∃ j_17 : Nat, j_17 < 115 ∧ x3 = nI j_17 ∧ (∀ μ_18 : gMem, μ_18 = gsI μ_16 749 r0 j_17 (0 : Int32) → ∃ j_19 : Nat, j_19 < 115 ∧ x3 = nI j_19 ∧ (∀ μ_20 : gMem, μ_20 = gsI μ_18 750 r0 j_19 (0 : Int32) → ∀ x2_21 : Int32, x2_21 = x2 + (1 : Int32) → pt_X10_starts_1 l D d q Γ r0 x1 x2_21 μ_20))))))))))) : pt_X10_starts_4 l D d q Γ r0 x1 x2 x3 rs0 xs1 xs2 μ := by
  unfold pt_X10_starts_4
  obtain ⟨j_1, hj_1, ej_1, h⟩ := h
  refine g_iast j_1 hrs0 rfl hj_1 (by decide) ej_1 dX10_starts_98 ?_
  obtain ⟨μ_2, eμ_2⟩ : ∃ z : gMem, z = gsI μ 741 rs0 j_1 xs2 := ⟨_, rfl⟩
  have h := h μ_2 eμ_2
  refine g_mem eμ_2.symm ?_
  refine g_aload_n dX10_starts_99 rfl ?_
  refine g_gfR fl_10_81 rfl hr0 dX10_starts_100 ?_
  refine g_iload_n dX10_starts_103 rfl ?_
  refine g_iconst (0 : Int32) dX10_starts_104 rfl ?_
  obtain ⟨j_3, hj_3, ej_3, h⟩ := h
  refine g_iast j_3 hr0 rfl hj_3 (by decide) ej_3 dX10_starts_105 ?_
  obtain ⟨μ_4, eμ_4⟩ : ∃ z : gMem, z = gsI μ_2 742 r0 j_3 (0 : Int32) := ⟨_, rfl⟩
  have h := h μ_4 eμ_4
  refine g_mem eμ_4.symm ?_
  refine g_aload_n dX10_starts_106 rfl ?_
  refine g_gfR fl_10_84 rfl hr0 dX10_starts_107 ?_
  refine g_iload_n dX10_starts_110 rfl ?_
  refine g_iconst (0 : Int32) dX10_starts_111 rfl ?_
  obtain ⟨j_5, hj_5, ej_5, h⟩ := h
  refine g_iast j_5 hr0 rfl hj_5 (by decide) ej_5 dX10_starts_112 ?_
  obtain ⟨μ_6, eμ_6⟩ : ∃ z : gMem, z = gsI μ_4 743 r0 j_5 (0 : Int32) := ⟨_, rfl⟩
  have h := h μ_6 eμ_6
  refine g_mem eμ_6.symm ?_
  refine g_aload_n dX10_starts_113 rfl ?_
  refine g_gfR fl_10_87 rfl hr0 dX10_starts_114 ?_
  refine g_iload_n dX10_starts_117 rfl ?_
  refine g_iconst (0 : Int32) dX10_starts_118 rfl ?_
  obtain ⟨j_7, hj_7, ej_7, h⟩ := h
  refine g_iast j_7 hr0 rfl hj_7 (by decide) ej_7 dX10_starts_119 ?_
  obtain ⟨μ_8, eμ_8⟩ : ∃ z : gMem, z = gsI μ_6 744 r0 j_7 (0 : Int32) := ⟨_, rfl⟩
  have h := h μ_8 eμ_8
  refine g_mem eμ_8.symm ?_
  refine g_aload_n dX10_starts_120 rfl ?_
  refine g_gfR fl_10_90 rfl hr0 dX10_starts_121 ?_
  refine g_iload_n dX10_starts_124 rfl ?_
  refine g_iconst (0 : Int32) dX10_starts_125 rfl ?_
  obtain ⟨j_9, hj_9, ej_9, h⟩ := h
  refine g_iast j_9 hr0 rfl hj_9 (by decide) ej_9 dX10_starts_126 ?_
  obtain ⟨μ_10, eμ_10⟩ : ∃ z : gMem, z = gsI μ_8 745 r0 j_9 (0 : Int32) := ⟨_, rfl⟩
  have h := h μ_10 eμ_10
  refine g_mem eμ_10.symm ?_
  refine g_aload_n dX10_starts_127 rfl ?_
  refine g_gfR fl_10_93 rfl hr0 dX10_starts_128 ?_
  refine g_iload_n dX10_starts_131 rfl ?_
  refine g_iconst (0 : Int32) dX10_starts_132 rfl ?_
  obtain ⟨j_11, hj_11, ej_11, h⟩ := h
  refine g_iast j_11 hr0 rfl hj_11 (by decide) ej_11 dX10_starts_133 ?_
  obtain ⟨μ_12, eμ_12⟩ : ∃ z : gMem, z = gsI μ_10 746 r0 j_11 (0 : Int32) := ⟨_, rfl⟩
  have h := h μ_12 eμ_12
  refine g_mem eμ_12.symm ?_
  refine g_aload_n dX10_starts_134 rfl ?_
  refine g_gfR fl_10_96 rfl hr0 dX10_starts_135 ?_
  refine g_iload_n dX10_starts_138 rfl ?_
  refine g_iconst (1 : Int32) dX10_starts_139 rfl ?_
  obtain ⟨j_13, hj_13, ej_13, h⟩ := h
  refine g_iast j_13 hr0 rfl hj_13 (by decide) ej_13 dX10_starts_140 ?_
  obtain ⟨μ_14, eμ_14⟩ : ∃ z : gMem, z = gsI μ_12 747 r0 j_13 (1 : Int32) := ⟨_, rfl⟩
  have h := h μ_14 eμ_14
  refine g_mem eμ_14.symm ?_
  refine g_aload_n dX10_starts_141 rfl ?_
  refine g_gfR fl_10_99 rfl hr0 dX10_starts_142 ?_
  refine g_iload_n dX10_starts_145 rfl ?_
  refine g_iconst (0 : Int32) dX10_starts_146 rfl ?_
  obtain ⟨j_15, hj_15, ej_15, h⟩ := h
  refine g_iast j_15 hr0 rfl hj_15 (by decide) ej_15 dX10_starts_147 ?_
  obtain ⟨μ_16, eμ_16⟩ : ∃ z : gMem, z = gsI μ_14 748 r0 j_15 (0 : Int32) := ⟨_, rfl⟩
  have h := h μ_16 eμ_16
  refine g_mem eμ_16.symm ?_
  refine g_aload_n dX10_starts_148 rfl ?_
  refine g_gfR fl_10_102 rfl hr0 dX10_starts_149 ?_
  refine g_iload_n dX10_starts_152 rfl ?_
  refine g_iconst (0 : Int32) dX10_starts_153 rfl ?_
  obtain ⟨j_17, hj_17, ej_17, h⟩ := h
  refine g_iast j_17 hr0 rfl hj_17 (by decide) ej_17 dX10_starts_154 ?_
  obtain ⟨μ_18, eμ_18⟩ : ∃ z : gMem, z = gsI μ_16 749 r0 j_17 (0 : Int32) := ⟨_, rfl⟩
  have h := h μ_18 eμ_18
  refine g_mem eμ_18.symm ?_
  refine g_aload_n dX10_starts_155 rfl ?_
  refine g_gfR fl_10_105 rfl hr0 dX10_starts_156 ?_
  refine g_iload_n dX10_starts_159 rfl ?_
  refine g_iconst (0 : Int32) dX10_starts_160 rfl ?_
  obtain ⟨j_19, hj_19, ej_19, h⟩ := h
  refine g_iast j_19 hr0 rfl hj_19 (by decide) ej_19 dX10_starts_161 ?_
  obtain ⟨μ_20, eμ_20⟩ : ∃ z : gMem, z = gsI μ_18 750 r0 j_19 (0 : Int32) := ⟨_, rfl⟩
  have h := h μ_20 eμ_20
  refine g_mem eμ_20.symm ?_
  refine g_iinc dX10_starts_162 rfl (by decide) (fun x2_21 ex2_21 => g_sub (lv' := [(0, .ref (D.2.2 10 r0)), (1, .int x1), (2, .int x2_21)]) [1, 2, 0] rfl ?_)
  have h := h x2_21 ex2_21
  refine g_goto (tgt := 29) dX10_starts_165 (by decide) ?_
  exact g_sub [0, 1, 2] rfl h
set_option maxRecDepth 20000 in
set_option maxHeartbeats 4000000 in
theorem bl_X10_starts_5 {l : Launch} {D : gD} {d : Nat} {q : gMem → Prop} {Γ : gC} {r0 : Nat} {x1 : Int32} {x2 : Int32} {μ : gMem} (hr0 : r0 < 1) (h : (((30 : Int32) ≤ x2) → q μ) ∧ ((¬ (30 : Int32) ≤ x2) → ∃ j_2 : Nat, j_2 < 60 ∧ x2 = nI j_2 ∧ (∃ j_3 : Nat, j_3 < 690 ∧ ((30 : Int32) * x1) + x2 = nI j_3 ∧ (∀ μ_4 : gMem, μ_4 = gsI μ 751 r0 j_3 (μ.1 716 r0 j_2) → ∀ x2_5 : Int32, x2_5 = x2 + (1 : Int32) → pt_X10_starts_5 l D d q Γ r0 x1 x2_5 μ_4)))) : pt_X10_starts_5 l D d q Γ r0 x1 x2 μ := by
  unfold pt_X10_starts_5
  refine g_iload_n dX10_starts_170 rfl ?_
  refine g_bipush (30 : Int32) dX10_starts_171 rfl ?_
  refine g_icmp_ge (tgt := 199) dX10_starts_173 (by decide) (fun c_1 => ?_) (fun c_1 => ?_)
  · have h := h.1 c_1
    exact g_vret dX10_starts_199 rfl ⟨rfl, h⟩
  · have h := h.2 c_1
    refine g_aload_n dX10_starts_176 rfl ?_
    refine g_gfR fl_10_108 rfl hr0 dX10_starts_177 ?_
    refine g_bipush (30 : Int32) dX10_starts_180 rfl ?_
    refine g_iload_n dX10_starts_182 rfl ?_
    refine g_imul dX10_starts_183 ?_
    refine g_iload_n dX10_starts_184 rfl ?_
    refine g_iadd dX10_starts_185 ?_
    refine g_aload_n dX10_starts_186 rfl ?_
    refine g_gfR fl_10_40 rfl hr0 dX10_starts_187 ?_
    refine g_iload_n dX10_starts_190 rfl ?_
    obtain ⟨j_2, hj_2, ej_2, h⟩ := h
    refine g_iald j_2 hr0 rfl hj_2 (by decide) ej_2 dX10_starts_191 ?_
    obtain ⟨j_3, hj_3, ej_3, h⟩ := h
    refine g_iast j_3 hr0 rfl hj_3 (by decide) ej_3 dX10_starts_192 ?_
    obtain ⟨μ_4, eμ_4⟩ : ∃ z : gMem, z = gsI μ 751 r0 j_3 (μ.1 716 r0 j_2) := ⟨_, rfl⟩
    have h := h μ_4 eμ_4
    refine g_mem eμ_4.symm ?_
    refine g_iinc dX10_starts_193 rfl (by decide) (fun x2_5 ex2_5 => g_sub (lv' := [(0, .ref (D.2.2 10 r0)), (1, .int x1), (2, .int x2_5)]) [1, 2, 0] rfl ?_)
    have h := h x2_5 ex2_5
    refine g_goto (tgt := 170) dX10_starts_196 (by decide) ?_
    exact g_sub [0, 1, 2] rfl h
theorem en_X10_starts {l : Launch} {D : gD} {d : Nat} {q : gMem → Prop} {r0 : Nat} {x1 : Int32} {μ : gMem} (h : ∀ Γ : gC, pt_X10_starts_0 l D d q Γ r0 x1 μ) : Ctr l D d yX10_starts cX10_starts 5 none [.ref (D.2.2 10 r0), .int x1] μ (pV q) :=
  Ctr_of rfl (by decide) (Nat.le_of_ble_eq_true rfl) (fun Γ => g_sub [0, 1] rfl (h Γ))
def pt_X10_begins_0 (l : Launch) (D : gD) (d : Nat) (q : gMem → Prop) (Γ : gC) (r0 : Nat) (μ : gMem) : Prop := G l D RX10 cX10_begins 1 none d (pV q) Γ 0 [(0, .ref (D.2.2 10 r0))] [] μ
set_option maxRecDepth 20000 in
set_option maxHeartbeats 4000000 in
theorem bl_X10_begins_0 {l : Launch} {D : gD} {d : Nat} {q : gMem → Prop} {Γ : gC} {r0 : Nat} {μ : gMem} (hr0 : r0 < 1) (h : ∃ (d_1 : Nat) (q_2 : gMem → Prop), d_1 < d ∧ Ctr l D d_1 yX10_starts cX10_starts 5 none [.ref (D.2.2 10 r0), .int (0 : Int32)] μ (pV q_2) ∧ ∀ (μ_5 : gMem), q_2 μ_5 → q μ_5) : pt_X10_begins_0 l D d q Γ r0 μ := by
  unfold pt_X10_begins_0
  refine g_aload_n dX10_begins_0 rfl ?_
  refine g_iconst (0 : Int32) dX10_begins_1 rfl ?_
  obtain ⟨d_1, q_2, hd_3, hc_4, h⟩ := h
  refine g_cV ca_X10_328 ob_10 hc_4 hd_3 (by decide) hr0 rfl rfl (by first | exact Nat.le_of_ble_eq_true rfl | decide) dX10_begins_2 (kV (fun μ_5 hq_7 => ?_))
  have h := h μ_5 hq_7
  exact g_vret dX10_begins_5 rfl ⟨rfl, h⟩
theorem en_X10_begins {l : Launch} {D : gD} {d : Nat} {q : gMem → Prop} {r0 : Nat} {μ : gMem} (h : ∀ Γ : gC, pt_X10_begins_0 l D d q Γ r0 μ) : Ctr l D d yX10_begins cX10_begins 1 none [.ref (D.2.2 10 r0)] μ (pV q) :=
  Ctr_of rfl (by decide) (Nat.le_of_ble_eq_true rfl) (fun Γ => g_sub [0] rfl (h Γ))
def pt_X10_copies_0 (l : Launch) (D : gD) (d : Nat) (q : gMem → Prop) (Γ : gC) (r0 : Nat) (x1 : Int32) (x2 : Int32) (μ : gMem) : Prop := G l D RX10 cX10_copies 6 none d (pV q) Γ 0 [(0, .ref (D.2.2 10 r0)), (1, .int x1), (2, .int x2)] [] μ
def pt_X10_copies_1 (l : Launch) (D : gD) (d : Nat) (q : gMem → Prop) (Γ : gC) (r0 : Nat) (x1 : Int32) (x2 : Int32) (x3 : Int32) (μ : gMem) : Prop := G l D RX10 cX10_copies 6 none d (pV q) Γ 38 [(0, .ref (D.2.2 10 r0)), (1, .int x1), (2, .int x2), (3, .int x3)] [] μ
def pt_X10_copies_2 (l : Launch) (D : gD) (d : Nat) (q : gMem → Prop) (Γ : gC) (r0 : Nat) (x1 : Int32) (x2 : Int32) (x3 : Int32) (μ : gMem) : Prop := G l D RX10 cX10_copies 6 none d (pV q) Γ 219 [(0, .ref (D.2.2 10 r0)), (1, .int x1), (2, .int x2), (3, .int x3)] [] μ
set_option maxRecDepth 20000 in
set_option maxHeartbeats 4000000 in
theorem bl_X10_copies_0 {l : Launch} {D : gD} {d : Nat} {q : gMem → Prop} {Γ : gC} {r0 : Nat} {x1 : Int32} {x2 : Int32} {μ : gMem} (hr0 : r0 < 1) (h : ∃ j_1 : Nat, j_1 < 23 ∧ x2 = nI j_1 ∧ (∃ j_2 : Nat, j_2 < 23 ∧ x1 = nI j_2 ∧ (∀ μ_3 : gMem, μ_3 = gsI μ 737 r0 j_2 (μ.1 737 r0 j_1) → ∃ j_4 : Nat, j_4 < 23 ∧ x2 = nI j_4 ∧ (∃ j_5 : Nat, j_5 < 23 ∧ x1 = nI j_5 ∧ (∀ μ_6 : gMem, μ_6 = gsI μ_3 738 r0 j_5 (μ_3.1 738 r0 j_4) → ∃ j_7 : Nat, j_7 < 23 ∧ x2 = nI j_7 ∧ (∃ j_8 : Nat, j_8 < 23 ∧ x1 = nI j_8 ∧ (∀ μ_9 : gMem, μ_9 = gsI μ_6 739 r0 j_8 (μ_6.1 739 r0 j_7) → ∀ x3_10 : Int32, x3_10 = (0 : Int32) → pt_X10_copies_1 l D d q Γ r0 x1 x2 x3_10 μ_9))))))) : pt_X10_copies_0 l D d q Γ r0 x1 x2 μ := by
  unfold pt_X10_copies_0
  refine g_aload_n dX10_copies_0 rfl ?_
  refine g_gfR fl_10_66 rfl hr0 dX10_copies_1 ?_
  refine g_iload_n dX10_copies_4 rfl ?_
  refine g_aload_n dX10_copies_5 rfl ?_
  refine g_gfR fl_10_66 rfl hr0 dX10_copies_6 ?_
  refine g_iload_n dX10_copies_9 rfl ?_
  obtain ⟨j_1, hj_1, ej_1, h⟩ := h
  refine g_iald j_1 hr0 rfl hj_1 (by decide) ej_1 dX10_copies_10 ?_
  obtain ⟨j_2, hj_2, ej_2, h⟩ := h
  refine g_iast j_2 hr0 rfl hj_2 (by decide) ej_2 dX10_copies_11 ?_
  obtain ⟨μ_3, eμ_3⟩ : ∃ z : gMem, z = gsI μ 737 r0 j_2 (μ.1 737 r0 j_1) := ⟨_, rfl⟩
  have h := h μ_3 eμ_3
  refine g_mem eμ_3.symm ?_
  refine g_aload_n dX10_copies_12 rfl ?_
  refine g_gfR fl_10_69 rfl hr0 dX10_copies_13 ?_
  refine g_iload_n dX10_copies_16 rfl ?_
  refine g_aload_n dX10_copies_17 rfl ?_
  refine g_gfR fl_10_69 rfl hr0 dX10_copies_18 ?_
  refine g_iload_n dX10_copies_21 rfl ?_
  obtain ⟨j_4, hj_4, ej_4, h⟩ := h
  refine g_iald j_4 hr0 rfl hj_4 (by decide) ej_4 dX10_copies_22 ?_
  obtain ⟨j_5, hj_5, ej_5, h⟩ := h
  refine g_iast j_5 hr0 rfl hj_5 (by decide) ej_5 dX10_copies_23 ?_
  obtain ⟨μ_6, eμ_6⟩ : ∃ z : gMem, z = gsI μ_3 738 r0 j_5 (μ_3.1 738 r0 j_4) := ⟨_, rfl⟩
  have h := h μ_6 eμ_6
  refine g_mem eμ_6.symm ?_
  refine g_aload_n dX10_copies_24 rfl ?_
  refine g_gfR fl_10_72 rfl hr0 dX10_copies_25 ?_
  refine g_iload_n dX10_copies_28 rfl ?_
  refine g_aload_n dX10_copies_29 rfl ?_
  refine g_gfR fl_10_72 rfl hr0 dX10_copies_30 ?_
  refine g_iload_n dX10_copies_33 rfl ?_
  obtain ⟨j_7, hj_7, ej_7, h⟩ := h
  refine g_iald j_7 hr0 rfl hj_7 (by decide) ej_7 dX10_copies_34 ?_
  obtain ⟨j_8, hj_8, ej_8, h⟩ := h
  refine g_iast j_8 hr0 rfl hj_8 (by decide) ej_8 dX10_copies_35 ?_
  obtain ⟨μ_9, eμ_9⟩ : ∃ z : gMem, z = gsI μ_6 739 r0 j_8 (μ_6.1 739 r0 j_7) := ⟨_, rfl⟩
  have h := h μ_9 eμ_9
  refine g_mem eμ_9.symm ?_
  refine g_iconst (0 : Int32) dX10_copies_36 rfl ?_
  refine g_istore_n dX10_copies_37 (by decide) (fun x3_10 ex3_10 => g_sub (lv' := [(0, .ref (D.2.2 10 r0)), (1, .int x1), (2, .int x2), (3, .int x3_10)]) [1, 2, 3, 0] rfl ?_)
  have h := h x3_10 ex3_10
  exact g_sub [0, 1, 2, 3] rfl h
set_option maxRecDepth 20000 in
set_option maxHeartbeats 4000000 in
theorem bl_X10_copies_1 {l : Launch} {D : gD} {d : Nat} {q : gMem → Prop} {Γ : gC} {r0 : Nat} {x1 : Int32} {x2 : Int32} {x3 : Int32} {μ : gMem} (hr0 : r0 < 1) (h : (((5 : Int32) ≤ x3) → ∀ x3_2 : Int32, x3_2 = (0 : Int32) → pt_X10_copies_2 l D d q Γ r0 x1 x2 x3_2 μ) ∧ ((¬ (5 : Int32) ≤ x3) → ∀ x4_3 : Int32, x4_3 = ((5 : Int32) * x1) + x3 → ∀ x5_4 : Int32, x5_4 = ((5 : Int32) * x2) + x3 → ∃ j_5 : Nat, j_5 < 115 ∧ x5_4 = nI j_5 ∧ (∃ j_6 : Nat, j_6 < 115 ∧ x4_3 = nI j_6 ∧ (∀ μ_7 : gMem, μ_7 = gsI μ 740 r0 j_6 (μ.1 740 r0 j_5) → ∃ j_8 : Nat, j_8 < 115 ∧ x5_4 = nI j_8 ∧ (∃ j_9 : Nat, j_9 < 115 ∧ x4_3 = nI j_9 ∧ (∀ μ_10 : gMem, μ_10 = gsI μ_7 741 r0 j_9 (μ_7.1 741 r0 j_8) → ∃ j_11 : Nat, j_11 < 115 ∧ x5_4 = nI j_11 ∧ (∃ j_12 : Nat, j_12 < 115 ∧ x4_3 = nI j_12 ∧ (∀ μ_13 : gMem, μ_13 = gsI μ_10 742 r0 j_12 (μ_10.1 742 r0 j_11) → ∃ j_14 : Nat, j_14 < 115 ∧ x5_4 = nI j_14 ∧ (∃ j_15 : Nat, j_15 < 115 ∧ x4_3 = nI j_15 ∧ (∀ μ_16 : gMem, μ_16 = gsI μ_13 743 r0 j_15 (μ_13.1 743 r0 j_14) → ∃ j_17 : Nat, j_17 < 115 ∧ x5_4 = nI j_17 ∧ (∃ j_18 : Nat, j_18 < 115 ∧ x4_3 = nI j_18 ∧ (∀ μ_19 : gMem, μ_19 = gsI μ_16 744 r0 j_18 (μ_16.1 744 r0 j_17) → ∃ j_20 : Nat, j_20 < 115 ∧ x5_4 = nI j_20 ∧ (∃ j_21 : Nat, j_21 < 115 ∧ x4_3 = nI j_21 ∧ (∀ μ_22 : gMem, μ_22 = gsI μ_19 745 r0 j_21 (μ_19.1 745 r0 j_20) → ∃ j_23 : Nat, j_23 < 115 ∧ x5_4 = nI j_23 ∧ (∃ j_24 : Nat, j_24 < 115 ∧ x4_3 = nI j_24 ∧ (∀ μ_25 : gMem, μ_25 = gsI μ_22 746 r0 j_24 (μ_22.1 746 r0 j_23) → ∃ j_26 : Nat, j_26 < 115 ∧ x5_4 = nI j_26 ∧ (∃ j_27 : Nat, j_27 < 115 ∧ x4_3 = nI j_27 ∧ (∀ μ_28 : gMem, μ_28 = gsI μ_25 747 r0 j_27 (μ_25.1 747 r0 j_26) → ∃ j_29 : Nat, j_29 < 115 ∧ x5_4 = nI j_29 ∧ (∃ j_30 : Nat, j_30 < 115 ∧ x4_3 = nI j_30 ∧ (∀ μ_31 : gMem, μ_31 = gsI μ_28 748 r0 j_30 (μ_28.1 748 r0 j_29) → ∃ j_32 : Nat, j_32 < 115 ∧ x5_4 = nI j_32 ∧ (∃ j_33 : Nat, j_33 < 115 ∧ x4_3 = nI j_33 ∧ (∀ μ_34 : gMem, μ_34 = gsI μ_31 749 r0 j_33 (μ_31.1 749 r0 j_32) → ∃ j_35 : Nat, j_35 < 115 ∧ x5_4 = nI j_35 ∧ (∃ j_36 : Nat, j_36 < 115 ∧ x4_3 = nI j_36 ∧ (∀ μ_37 : gMem, μ_37 = gsI μ_34 750 r0 j_36 (μ_34.1 750 r0 j_35) → ∀ x3_38 : Int32, x3_38 = x3 + (1 : Int32) → pt_X10_copies_1 l D d q Γ r0 x1 x2 x3_38 μ_37)))))))))))))))))))))))) : pt_X10_copies_1 l D d q Γ r0 x1 x2 x3 μ := by
  unfold pt_X10_copies_1
  refine g_iload_n dX10_copies_38 rfl ?_
  refine g_iconst (5 : Int32) dX10_copies_39 rfl ?_
  refine g_icmp_ge (tgt := 217) dX10_copies_40 (by decide) (fun c_1 => ?_) (fun c_1 => ?_)
  · have h := h.1 c_1
    refine g_iconst (0 : Int32) dX10_copies_217 rfl ?_
    refine g_istore_n dX10_copies_218 (by decide) (fun x3_2 ex3_2 => g_sub (lv' := [(0, .ref (D.2.2 10 r0)), (1, .int x1), (2, .int x2), (3, .int x3_2)]) [1, 2, 3, 0] rfl ?_)
    have h := h x3_2 ex3_2
    exact g_sub [0, 1, 2, 3] rfl h
  · have h := h.2 c_1
    refine g_iconst (5 : Int32) dX10_copies_43 rfl ?_
    refine g_iload_n dX10_copies_44 rfl ?_
    refine g_imul dX10_copies_45 ?_
    refine g_iload_n dX10_copies_46 rfl ?_
    refine g_iadd dX10_copies_47 ?_
    refine g_istore dX10_copies_48 (by decide) (fun x4_3 ex4_3 => g_sub (lv' := [(0, .ref (D.2.2 10 r0)), (1, .int x1), (2, .int x2), (3, .int x3), (4, .int x4_3)]) [1, 2, 3, 4, 0] rfl ?_)
    have h := h x4_3 ex4_3
    refine g_iconst (5 : Int32) dX10_copies_50 rfl ?_
    refine g_iload_n dX10_copies_51 rfl ?_
    refine g_imul dX10_copies_52 ?_
    refine g_iload_n dX10_copies_53 rfl ?_
    refine g_iadd dX10_copies_54 ?_
    refine g_istore dX10_copies_55 (by decide) (fun x5_4 ex5_4 => g_sub (lv' := [(0, .ref (D.2.2 10 r0)), (1, .int x1), (2, .int x2), (3, .int x3), (4, .int x4_3), (5, .int x5_4)]) [1, 2, 3, 4, 5, 0] rfl ?_)
    have h := h x5_4 ex5_4
    refine g_aload_n dX10_copies_57 rfl ?_
    refine g_gfR fl_10_75 rfl hr0 dX10_copies_58 ?_
    refine g_iload dX10_copies_61 rfl ?_
    refine g_aload_n dX10_copies_63 rfl ?_
    refine g_gfR fl_10_75 rfl hr0 dX10_copies_64 ?_
    refine g_iload dX10_copies_67 rfl ?_
    obtain ⟨j_5, hj_5, ej_5, h⟩ := h
    refine g_iald j_5 hr0 rfl hj_5 (by decide) ej_5 dX10_copies_69 ?_
    obtain ⟨j_6, hj_6, ej_6, h⟩ := h
    refine g_iast j_6 hr0 rfl hj_6 (by decide) ej_6 dX10_copies_70 ?_
    obtain ⟨μ_7, eμ_7⟩ : ∃ z : gMem, z = gsI μ 740 r0 j_6 (μ.1 740 r0 j_5) := ⟨_, rfl⟩
    have h := h μ_7 eμ_7
    refine g_mem eμ_7.symm ?_
    refine g_aload_n dX10_copies_71 rfl ?_
    refine g_gfR fl_10_78 rfl hr0 dX10_copies_72 ?_
    refine g_iload dX10_copies_75 rfl ?_
    refine g_aload_n dX10_copies_77 rfl ?_
    refine g_gfR fl_10_78 rfl hr0 dX10_copies_78 ?_
    refine g_iload dX10_copies_81 rfl ?_
    obtain ⟨j_8, hj_8, ej_8, h⟩ := h
    refine g_iald j_8 hr0 rfl hj_8 (by decide) ej_8 dX10_copies_83 ?_
    obtain ⟨j_9, hj_9, ej_9, h⟩ := h
    refine g_iast j_9 hr0 rfl hj_9 (by decide) ej_9 dX10_copies_84 ?_
    obtain ⟨μ_10, eμ_10⟩ : ∃ z : gMem, z = gsI μ_7 741 r0 j_9 (μ_7.1 741 r0 j_8) := ⟨_, rfl⟩
    have h := h μ_10 eμ_10
    refine g_mem eμ_10.symm ?_
    refine g_aload_n dX10_copies_85 rfl ?_
    refine g_gfR fl_10_81 rfl hr0 dX10_copies_86 ?_
    refine g_iload dX10_copies_89 rfl ?_
    refine g_aload_n dX10_copies_91 rfl ?_
    refine g_gfR fl_10_81 rfl hr0 dX10_copies_92 ?_
    refine g_iload dX10_copies_95 rfl ?_
    obtain ⟨j_11, hj_11, ej_11, h⟩ := h
    refine g_iald j_11 hr0 rfl hj_11 (by decide) ej_11 dX10_copies_97 ?_
    obtain ⟨j_12, hj_12, ej_12, h⟩ := h
    refine g_iast j_12 hr0 rfl hj_12 (by decide) ej_12 dX10_copies_98 ?_
    obtain ⟨μ_13, eμ_13⟩ : ∃ z : gMem, z = gsI μ_10 742 r0 j_12 (μ_10.1 742 r0 j_11) := ⟨_, rfl⟩
    have h := h μ_13 eμ_13
    refine g_mem eμ_13.symm ?_
    refine g_aload_n dX10_copies_99 rfl ?_
    refine g_gfR fl_10_84 rfl hr0 dX10_copies_100 ?_
    refine g_iload dX10_copies_103 rfl ?_
    refine g_aload_n dX10_copies_105 rfl ?_
    refine g_gfR fl_10_84 rfl hr0 dX10_copies_106 ?_
    refine g_iload dX10_copies_109 rfl ?_
    obtain ⟨j_14, hj_14, ej_14, h⟩ := h
    refine g_iald j_14 hr0 rfl hj_14 (by decide) ej_14 dX10_copies_111 ?_
    obtain ⟨j_15, hj_15, ej_15, h⟩ := h
    refine g_iast j_15 hr0 rfl hj_15 (by decide) ej_15 dX10_copies_112 ?_
    obtain ⟨μ_16, eμ_16⟩ : ∃ z : gMem, z = gsI μ_13 743 r0 j_15 (μ_13.1 743 r0 j_14) := ⟨_, rfl⟩
    have h := h μ_16 eμ_16
    refine g_mem eμ_16.symm ?_
    refine g_aload_n dX10_copies_113 rfl ?_
    refine g_gfR fl_10_87 rfl hr0 dX10_copies_114 ?_
    refine g_iload dX10_copies_117 rfl ?_
    refine g_aload_n dX10_copies_119 rfl ?_
    refine g_gfR fl_10_87 rfl hr0 dX10_copies_120 ?_
    refine g_iload dX10_copies_123 rfl ?_
    obtain ⟨j_17, hj_17, ej_17, h⟩ := h
    refine g_iald j_17 hr0 rfl hj_17 (by decide) ej_17 dX10_copies_125 ?_
    obtain ⟨j_18, hj_18, ej_18, h⟩ := h
    refine g_iast j_18 hr0 rfl hj_18 (by decide) ej_18 dX10_copies_126 ?_
    obtain ⟨μ_19, eμ_19⟩ : ∃ z : gMem, z = gsI μ_16 744 r0 j_18 (μ_16.1 744 r0 j_17) := ⟨_, rfl⟩
    have h := h μ_19 eμ_19
    refine g_mem eμ_19.symm ?_
    refine g_aload_n dX10_copies_127 rfl ?_
    refine g_gfR fl_10_90 rfl hr0 dX10_copies_128 ?_
    refine g_iload dX10_copies_131 rfl ?_
    refine g_aload_n dX10_copies_133 rfl ?_
    refine g_gfR fl_10_90 rfl hr0 dX10_copies_134 ?_
    refine g_iload dX10_copies_137 rfl ?_
    obtain ⟨j_20, hj_20, ej_20, h⟩ := h
    refine g_iald j_20 hr0 rfl hj_20 (by decide) ej_20 dX10_copies_139 ?_
    obtain ⟨j_21, hj_21, ej_21, h⟩ := h
    refine g_iast j_21 hr0 rfl hj_21 (by decide) ej_21 dX10_copies_140 ?_
    obtain ⟨μ_22, eμ_22⟩ : ∃ z : gMem, z = gsI μ_19 745 r0 j_21 (μ_19.1 745 r0 j_20) := ⟨_, rfl⟩
    have h := h μ_22 eμ_22
    refine g_mem eμ_22.symm ?_
    refine g_aload_n dX10_copies_141 rfl ?_
    refine g_gfR fl_10_93 rfl hr0 dX10_copies_142 ?_
    refine g_iload dX10_copies_145 rfl ?_
    refine g_aload_n dX10_copies_147 rfl ?_
    refine g_gfR fl_10_93 rfl hr0 dX10_copies_148 ?_
    refine g_iload dX10_copies_151 rfl ?_
    obtain ⟨j_23, hj_23, ej_23, h⟩ := h
    refine g_iald j_23 hr0 rfl hj_23 (by decide) ej_23 dX10_copies_153 ?_
    obtain ⟨j_24, hj_24, ej_24, h⟩ := h
    refine g_iast j_24 hr0 rfl hj_24 (by decide) ej_24 dX10_copies_154 ?_
    obtain ⟨μ_25, eμ_25⟩ : ∃ z : gMem, z = gsI μ_22 746 r0 j_24 (μ_22.1 746 r0 j_23) := ⟨_, rfl⟩
    have h := h μ_25 eμ_25
    refine g_mem eμ_25.symm ?_
    refine g_aload_n dX10_copies_155 rfl ?_
    refine g_gfR fl_10_96 rfl hr0 dX10_copies_156 ?_
    refine g_iload dX10_copies_159 rfl ?_
    refine g_aload_n dX10_copies_161 rfl ?_
    refine g_gfR fl_10_96 rfl hr0 dX10_copies_162 ?_
    refine g_iload dX10_copies_165 rfl ?_
    obtain ⟨j_26, hj_26, ej_26, h⟩ := h
    refine g_iald j_26 hr0 rfl hj_26 (by decide) ej_26 dX10_copies_167 ?_
    obtain ⟨j_27, hj_27, ej_27, h⟩ := h
    refine g_iast j_27 hr0 rfl hj_27 (by decide) ej_27 dX10_copies_168 ?_
    obtain ⟨μ_28, eμ_28⟩ : ∃ z : gMem, z = gsI μ_25 747 r0 j_27 (μ_25.1 747 r0 j_26) := ⟨_, rfl⟩
    have h := h μ_28 eμ_28
    refine g_mem eμ_28.symm ?_
    refine g_aload_n dX10_copies_169 rfl ?_
    refine g_gfR fl_10_99 rfl hr0 dX10_copies_170 ?_
    refine g_iload dX10_copies_173 rfl ?_
    refine g_aload_n dX10_copies_175 rfl ?_
    refine g_gfR fl_10_99 rfl hr0 dX10_copies_176 ?_
    refine g_iload dX10_copies_179 rfl ?_
    obtain ⟨j_29, hj_29, ej_29, h⟩ := h
    refine g_iald j_29 hr0 rfl hj_29 (by decide) ej_29 dX10_copies_181 ?_
    obtain ⟨j_30, hj_30, ej_30, h⟩ := h
    refine g_iast j_30 hr0 rfl hj_30 (by decide) ej_30 dX10_copies_182 ?_
    obtain ⟨μ_31, eμ_31⟩ : ∃ z : gMem, z = gsI μ_28 748 r0 j_30 (μ_28.1 748 r0 j_29) := ⟨_, rfl⟩
    have h := h μ_31 eμ_31
    refine g_mem eμ_31.symm ?_
    refine g_aload_n dX10_copies_183 rfl ?_
    refine g_gfR fl_10_102 rfl hr0 dX10_copies_184 ?_
    refine g_iload dX10_copies_187 rfl ?_
    refine g_aload_n dX10_copies_189 rfl ?_
    refine g_gfR fl_10_102 rfl hr0 dX10_copies_190 ?_
    refine g_iload dX10_copies_193 rfl ?_
    obtain ⟨j_32, hj_32, ej_32, h⟩ := h
    refine g_iald j_32 hr0 rfl hj_32 (by decide) ej_32 dX10_copies_195 ?_
    obtain ⟨j_33, hj_33, ej_33, h⟩ := h
    refine g_iast j_33 hr0 rfl hj_33 (by decide) ej_33 dX10_copies_196 ?_
    obtain ⟨μ_34, eμ_34⟩ : ∃ z : gMem, z = gsI μ_31 749 r0 j_33 (μ_31.1 749 r0 j_32) := ⟨_, rfl⟩
    have h := h μ_34 eμ_34
    refine g_mem eμ_34.symm ?_
    refine g_aload_n dX10_copies_197 rfl ?_
    refine g_gfR fl_10_105 rfl hr0 dX10_copies_198 ?_
    refine g_iload dX10_copies_201 rfl ?_
    refine g_aload_n dX10_copies_203 rfl ?_
    refine g_gfR fl_10_105 rfl hr0 dX10_copies_204 ?_
    refine g_iload dX10_copies_207 rfl ?_
    obtain ⟨j_35, hj_35, ej_35, h⟩ := h
    refine g_iald j_35 hr0 rfl hj_35 (by decide) ej_35 dX10_copies_209 ?_
    obtain ⟨j_36, hj_36, ej_36, h⟩ := h
    refine g_iast j_36 hr0 rfl hj_36 (by decide) ej_36 dX10_copies_210 ?_
    obtain ⟨μ_37, eμ_37⟩ : ∃ z : gMem, z = gsI μ_34 750 r0 j_36 (μ_34.1 750 r0 j_35) := ⟨_, rfl⟩
    have h := h μ_37 eμ_37
    refine g_mem eμ_37.symm ?_
    refine g_iinc dX10_copies_211 rfl (by decide) (fun x3_38 ex3_38 => g_sub (lv' := [(0, .ref (D.2.2 10 r0)), (1, .int x1), (2, .int x2), (3, .int x3_38)]) [1, 2, 3, 0] rfl ?_)
    have h := h x3_38 ex3_38
    refine g_goto (tgt := 38) dX10_copies_214 (by decide) ?_
    exact g_sub [0, 1, 2, 3] rfl h
set_option maxRecDepth 20000 in
set_option maxHeartbeats 4000000 in
theorem bl_X10_copies_2 {l : Launch} {D : gD} {d : Nat} {q : gMem → Prop} {Γ : gC} {r0 : Nat} {x1 : Int32} {x2 : Int32} {x3 : Int32} {μ : gMem} (hr0 : r0 < 1) (h : (((30 : Int32) ≤ x3) → q μ) ∧ ((¬ (30 : Int32) ≤ x3) → ∃ j_2 : Nat, j_2 < 690 ∧ ((30 : Int32) * x2) + x3 = nI j_2 ∧ (∃ j_3 : Nat, j_3 < 690 ∧ ((30 : Int32) * x1) + x3 = nI j_3 ∧ (∀ μ_4 : gMem, μ_4 = gsI μ 751 r0 j_3 (μ.1 751 r0 j_2) → ∀ x3_5 : Int32, x3_5 = x3 + (1 : Int32) → pt_X10_copies_2 l D d q Γ r0 x1 x2 x3_5 μ_4)))) : pt_X10_copies_2 l D d q Γ r0 x1 x2 x3 μ := by
  unfold pt_X10_copies_2
  refine g_iload_n dX10_copies_219 rfl ?_
  refine g_bipush (30 : Int32) dX10_copies_220 rfl ?_
  refine g_icmp_ge (tgt := 253) dX10_copies_222 (by decide) (fun c_1 => ?_) (fun c_1 => ?_)
  · have h := h.1 c_1
    exact g_vret dX10_copies_253 rfl ⟨rfl, h⟩
  · have h := h.2 c_1
    refine g_aload_n dX10_copies_225 rfl ?_
    refine g_gfR fl_10_108 rfl hr0 dX10_copies_226 ?_
    refine g_bipush (30 : Int32) dX10_copies_229 rfl ?_
    refine g_iload_n dX10_copies_231 rfl ?_
    refine g_imul dX10_copies_232 ?_
    refine g_iload_n dX10_copies_233 rfl ?_
    refine g_iadd dX10_copies_234 ?_
    refine g_aload_n dX10_copies_235 rfl ?_
    refine g_gfR fl_10_108 rfl hr0 dX10_copies_236 ?_
    refine g_bipush (30 : Int32) dX10_copies_239 rfl ?_
    refine g_iload_n dX10_copies_241 rfl ?_
    refine g_imul dX10_copies_242 ?_
    refine g_iload_n dX10_copies_243 rfl ?_
    refine g_iadd dX10_copies_244 ?_
    obtain ⟨j_2, hj_2, ej_2, h⟩ := h
    refine g_iald j_2 hr0 rfl hj_2 (by decide) ej_2 dX10_copies_245 ?_
    obtain ⟨j_3, hj_3, ej_3, h⟩ := h
    refine g_iast j_3 hr0 rfl hj_3 (by decide) ej_3 dX10_copies_246 ?_
    obtain ⟨μ_4, eμ_4⟩ : ∃ z : gMem, z = gsI μ 751 r0 j_3 (μ.1 751 r0 j_2) := ⟨_, rfl⟩
    have h := h μ_4 eμ_4
    refine g_mem eμ_4.symm ?_
    refine g_iinc dX10_copies_247 rfl (by decide) (fun x3_5 ex3_5 => g_sub (lv' := [(0, .ref (D.2.2 10 r0)), (1, .int x1), (2, .int x2), (3, .int x3_5)]) [1, 2, 3, 0] rfl ?_)
    have h := h x3_5 ex3_5
    refine g_goto (tgt := 219) dX10_copies_250 (by decide) ?_
    exact g_sub [0, 1, 2, 3] rfl h
theorem en_X10_copies {l : Launch} {D : gD} {d : Nat} {q : gMem → Prop} {r0 : Nat} {x1 : Int32} {x2 : Int32} {μ : gMem} (h : ∀ Γ : gC, pt_X10_copies_0 l D d q Γ r0 x1 x2 μ) : Ctr l D d yX10_copies cX10_copies 6 none [.ref (D.2.2 10 r0), .int x1, .int x2] μ (pV q) :=
  Ctr_of rfl (by decide) (Nat.le_of_ble_eq_true rfl) (fun Γ => g_sub [0, 1, 2] rfl (h Γ))
def pt_X10_hasBand_0 (l : Launch) (D : gD) (d : Nat) (q : Int32 → gMem → Prop) (Γ : gC) (r0 : Nat) (x1 : Int32) (x2 : Int32) (μ : gMem) : Prop := G l D RX10 cX10_hasBand 3 (some .boolean) d (pI q) Γ 0 [(0, .ref (D.2.2 10 r0)), (1, .int x1), (2, .int x2)] [] μ
def pt_X10_hasBand_1 (l : Launch) (D : gD) (d : Nat) (q : Int32 → gMem → Prop) (Γ : gC)  (μ : gMem) : Prop := G l D RX10 cX10_hasBand 3 (some .boolean) d (pI q) Γ 22 [] [] μ
set_option maxRecDepth 20000 in
set_option maxHeartbeats 4000000 in
theorem bl_X10_hasBand_0 {l : Launch} {D : gD} {d : Nat} {q : Int32 → gMem → Prop} {Γ : gC} {r0 : Nat} {x1 : Int32} {x2 : Int32} {μ : gMem} (hr0 : r0 < 1) (h : (((μ.1 10 r0 51) = (3 : Int32)) → pt_X10_hasBand_1 l D d q Γ  μ) ∧ ((¬ (μ.1 10 r0 51) = (3 : Int32)) → ∃ j_2 : Nat, j_2 < 115 ∧ ((5 : Int32) * x1) + x2 = nI j_2 ∧ (((¬ (μ.1 747 r0 j_2) = (1 : Int32)) → q (0 : Int32) μ) ∧ (((μ.1 747 r0 j_2) = (1 : Int32)) → pt_X10_hasBand_1 l D d q Γ  μ)))) : pt_X10_hasBand_0 l D d q Γ r0 x1 x2 μ := by
  unfold pt_X10_hasBand_0
  refine g_aload_n dX10_hasBand_0 rfl ?_
  refine g_gfI fi_10_331 hr0 dX10_hasBand_1 ?_
  refine g_iconst (3 : Int32) dX10_hasBand_4 rfl ?_
  refine g_icmp_eq (tgt := 22) dX10_hasBand_5 (by decide) (fun c_1 => ?_) (fun c_1 => ?_)
  · have h := h.1 c_1
    exact g_sub [] rfl h
  · have h := h.2 c_1
    refine g_aload_n dX10_hasBand_8 rfl ?_
    refine g_gfR fl_10_96 rfl hr0 dX10_hasBand_9 ?_
    refine g_iconst (5 : Int32) dX10_hasBand_12 rfl ?_
    refine g_iload_n dX10_hasBand_13 rfl ?_
    refine g_imul dX10_hasBand_14 ?_
    refine g_iload_n dX10_hasBand_15 rfl ?_
    refine g_iadd dX10_hasBand_16 ?_
    obtain ⟨j_2, hj_2, ej_2, h⟩ := h
    refine g_iald j_2 hr0 rfl hj_2 (by decide) ej_2 dX10_hasBand_17 ?_
    refine g_iconst (1 : Int32) dX10_hasBand_18 rfl ?_
    refine g_icmp_ne (tgt := 26) dX10_hasBand_19 (by decide) (fun c_3 => ?_) (fun c_3 => ?_)
    · have h := h.1 c_3
      refine g_iconst (0 : Int32) dX10_hasBand_26 rfl ?_
      exact g_iret dX10_hasBand_27 rfl rfl ⟨_, rfl, h⟩
    · have h := h.2 c_3
      exact g_sub [] rfl h
set_option maxRecDepth 20000 in
set_option maxHeartbeats 4000000 in
theorem bl_X10_hasBand_1 {l : Launch} {D : gD} {d : Nat} {q : Int32 → gMem → Prop} {Γ : gC}  {μ : gMem}  (h : q (1 : Int32) μ) : pt_X10_hasBand_1 l D d q Γ  μ := by
  unfold pt_X10_hasBand_1
  refine g_iconst (1 : Int32) dX10_hasBand_22 rfl ?_
  refine g_goto (tgt := 27) dX10_hasBand_23 (by decide) ?_
  exact g_iret dX10_hasBand_27 rfl rfl ⟨_, rfl, h⟩
theorem en_X10_hasBand {l : Launch} {D : gD} {d : Nat} {q : Int32 → gMem → Prop} {r0 : Nat} {x1 : Int32} {x2 : Int32} {μ : gMem} (h : ∀ Γ : gC, pt_X10_hasBand_0 l D d q Γ r0 x1 x2 μ) : Ctr l D d yX10_hasBand cX10_hasBand 3 (some .boolean) [.ref (D.2.2 10 r0), .int x1, .int x2] μ (pI q) :=
  Ctr_of rfl (by decide) (Nat.le_of_ble_eq_true rfl) (fun Γ => g_sub [0, 1, 2] rfl (h Γ))
def pt_X10_greatest_0 (l : Launch) (D : gD) (d : Nat) (q : Int32 → gMem → Prop) (Γ : gC) (r0 : Nat) (x1 : Int32) (μ : gMem) : Prop := G l D RX10 cX10_greatest 4 (some .int) d (pI q) Γ 0 [(0, .ref (D.2.2 10 r0)), (1, .int x1)] [] μ
def pt_X10_greatest_1 (l : Launch) (D : gD) (d : Nat) (q : Int32 → gMem → Prop) (Γ : gC) (r0 : Nat) (x1 : Int32) (x2 : Int32) (x3 : Int32) (μ : gMem) : Prop := G l D RX10 cX10_greatest 4 (some .int) d (pI q) Γ 4 [(0, .ref (D.2.2 10 r0)), (1, .int x1), (2, .int x2), (3, .int x3)] [] μ
def pt_X10_greatest_2 (l : Launch) (D : gD) (d : Nat) (q : Int32 → gMem → Prop) (Γ : gC) (r0 : Nat) (x1 : Int32) (x2 : Int32) (x3 : Int32) (μ : gMem) : Prop := G l D RX10 cX10_greatest 4 (some .int) d (pI q) Γ 37 [(0, .ref (D.2.2 10 r0)), (1, .int x1), (2, .int x2), (3, .int x3)] [] μ
set_option maxRecDepth 20000 in
set_option maxHeartbeats 4000000 in
theorem bl_X10_greatest_0 {l : Launch} {D : gD} {d : Nat} {q : Int32 → gMem → Prop} {Γ : gC} {r0 : Nat} {x1 : Int32} {μ : gMem} (hr0 : r0 < 1) (h : ∀ x2_1 : Int32, x2_1 = (0 : Int32) → ∀ x3_2 : Int32, x3_2 = (0 : Int32) → pt_X10_greatest_1 l D d q Γ r0 x1 x2_1 x3_2 μ) : pt_X10_greatest_0 l D d q Γ r0 x1 μ := by
  unfold pt_X10_greatest_0
  refine g_iconst (0 : Int32) dX10_greatest_0 rfl ?_
  refine g_istore_n dX10_greatest_1 (by decide) (fun x2_1 ex2_1 => g_sub (lv' := [(0, .ref (D.2.2 10 r0)), (1, .int x1), (2, .int x2_1)]) [1, 2, 0] rfl ?_)
  have h := h x2_1 ex2_1
  refine g_iconst (0 : Int32) dX10_greatest_2 rfl ?_
  refine g_istore_n dX10_greatest_3 (by decide) (fun x3_2 ex3_2 => g_sub (lv' := [(0, .ref (D.2.2 10 r0)), (1, .int x1), (2, .int x2_1), (3, .int x3_2)]) [1, 2, 3, 0] rfl ?_)
  have h := h x3_2 ex3_2
  exact g_sub [0, 1, 2, 3] rfl h
set_option maxRecDepth 20000 in
set_option maxHeartbeats 4000000 in
theorem bl_X10_greatest_1 {l : Launch} {D : gD} {d : Nat} {q : Int32 → gMem → Prop} {Γ : gC} {r0 : Nat} {x1 : Int32} {x2 : Int32} {x3 : Int32} {μ : gMem} (hr0 : r0 < 1) (h : (((μ.1 707 r0 0) ≤ x3) → q x2 μ) ∧ ((¬ (μ.1 707 r0 0) ≤ x3) → (0 < d) ∧ ((((bI (¬ (μ.1 10 r0 51 = (2 : Int32) ∧ x3 = μ.1 10 r0 52))) = 0) → pt_X10_greatest_2 l D d q Γ r0 x1 x2 x3 μ) ∧ ((¬ (bI (¬ (μ.1 10 r0 51 = (2 : Int32) ∧ x3 = μ.1 10 r0 52))) = 0) → ∃ j_8 : Nat, j_8 < 115 ∧ ((5 : Int32) * x1) + x3 = nI j_8 ∧ ((0 < d) ∧ (∀ x2_10 : Int32, x2_10 = imax x2 (μ.1 744 r0 j_8) → pt_X10_greatest_2 l D d q Γ r0 x1 x2_10 x3 μ)))))) : pt_X10_greatest_1 l D d q Γ r0 x1 x2 x3 μ := by
  unfold pt_X10_greatest_1
  refine g_iload_n dX10_greatest_4 rfl ?_
  refine g_aload_n dX10_greatest_5 rfl ?_
  refine g_gfR fl_10_13 rfl hr0 dX10_greatest_6 ?_
  refine g_iconst (0 : Int32) dX10_greatest_9 rfl ?_
  refine g_iald 0 hr0 rfl (by decide) (by decide) rfl dX10_greatest_10 ?_
  refine g_icmp_ge (tgt := 43) dX10_greatest_11 (by decide) (fun c_2 => ?_) (fun c_2 => ?_)
  · have h := h.1 c_2
    refine g_iload_n dX10_greatest_43 rfl ?_
    exact g_iret dX10_greatest_44 rfl rfl ⟨_, rfl, h⟩
  · have h := h.2 c_2
    refine g_aload_n dX10_greatest_14 rfl ?_
    refine g_iload_n dX10_greatest_15 rfl ?_
    obtain ⟨hd_3, h⟩ := h
    refine g_cV ca_X10_334 ob_10 (c_X10_isThere (d := 0) (Nat.le_refl _) hr0 ) hd_3 (by decide) hr0 rfl rfl (by first | exact Nat.le_of_ble_eq_true rfl | decide) dX10_greatest_16 (kI (fun v_4 μ_5 hq_6 => ?_))
    obtain ⟨ev_4, eμ_5⟩ := hq_6
    subst ev_4
    refine g_mem eμ_5 ?_
    refine g_if_eq (tgt := 37) dX10_greatest_19 (by decide) (fun c_7 => ?_) (fun c_7 => ?_)
    · have h := h.1 c_7
      exact g_sub [0, 1, 2, 3] rfl h
    · have h := h.2 c_7
      refine g_iload_n dX10_greatest_22 rfl ?_
      refine g_aload_n dX10_greatest_23 rfl ?_
      refine g_gfR fl_10_87 rfl hr0 dX10_greatest_24 ?_
      refine g_iconst (5 : Int32) dX10_greatest_27 rfl ?_
      refine g_iload_n dX10_greatest_28 rfl ?_
      refine g_imul dX10_greatest_29 ?_
      refine g_iload_n dX10_greatest_30 rfl ?_
      refine g_iadd dX10_greatest_31 ?_
      obtain ⟨j_8, hj_8, ej_8, h⟩ := h
      refine g_iald j_8 hr0 rfl hj_8 (by decide) ej_8 dX10_greatest_32 ?_
      obtain ⟨hd_9, h⟩ := h
      refine g_mmax hd_9 mk_X10_337 (by first | exact Nat.le_of_ble_eq_true rfl | decide) dX10_greatest_33 ?_
      refine g_istore_n dX10_greatest_36 (by decide) (fun x2_10 ex2_10 => g_sub (lv' := [(0, .ref (D.2.2 10 r0)), (1, .int x1), (2, .int x2_10), (3, .int x3)]) [1, 2, 0, 3] rfl ?_)
      have h := h x2_10 ex2_10
      exact g_sub [0, 1, 2, 3] rfl h
set_option maxRecDepth 20000 in
set_option maxHeartbeats 4000000 in
theorem bl_X10_greatest_2 {l : Launch} {D : gD} {d : Nat} {q : Int32 → gMem → Prop} {Γ : gC} {r0 : Nat} {x1 : Int32} {x2 : Int32} {x3 : Int32} {μ : gMem} (hr0 : r0 < 1) (h : ∀ x3_1 : Int32, x3_1 = x3 + (1 : Int32) → pt_X10_greatest_1 l D d q Γ r0 x1 x2 x3_1 μ) : pt_X10_greatest_2 l D d q Γ r0 x1 x2 x3 μ := by
  unfold pt_X10_greatest_2
  refine g_iinc dX10_greatest_37 rfl (by decide) (fun x3_1 ex3_1 => g_sub (lv' := [(0, .ref (D.2.2 10 r0)), (1, .int x1), (2, .int x2), (3, .int x3_1)]) [1, 2, 3, 0] rfl ?_)
  have h := h x3_1 ex3_1
  refine g_goto (tgt := 4) dX10_greatest_40 (by decide) ?_
  exact g_sub [0, 1, 2, 3] rfl h
theorem en_X10_greatest {l : Launch} {D : gD} {d : Nat} {q : Int32 → gMem → Prop} {r0 : Nat} {x1 : Int32} {μ : gMem} (h : ∀ Γ : gC, pt_X10_greatest_0 l D d q Γ r0 x1 μ) : Ctr l D d yX10_greatest cX10_greatest 4 (some .int) [.ref (D.2.2 10 r0), .int x1] μ (pI q) :=
  Ctr_of rfl (by decide) (Nat.le_of_ble_eq_true rfl) (fun Γ => g_sub [0, 1] rfl (h Γ))
def pt_X10_calls_0 (l : Launch) (D : gD) (d : Nat) (q : gMem → Prop) (Γ : gC) (r0 : Nat) (x1 : Int32) (x2 : Int32) (x3 : Int32) (μ : gMem) : Prop := G l D RX10 cX10_calls 5 none d (pV q) Γ 0 [(0, .ref (D.2.2 10 r0)), (1, .int x1), (2, .int x2), (3, .int x3)] [] μ
set_option maxRecDepth 20000 in
set_option maxHeartbeats 4000000 in
theorem bl_X10_calls_0 {l : Launch} {D : gD} {d : Nat} {q : gMem → Prop} {Γ : gC} {r0 : Nat} {x1 : Int32} {x2 : Int32} {x3 : Int32} {μ : gMem} (hr0 : r0 < 1) (h : ∀ x4_1 : Int32, x4_1 = ((5 : Int32) * x1) + x2 → ∃ j_2 : Nat, j_2 < 115 ∧ x4_1 = nI j_2 ∧ (∀ μ_4 : gMem, μ_4 = gsL μ 734 r0 0 ((μ.1 741 r0 j_2).toInt64) → ∃ j_5 : Nat, j_5 < 115 ∧ x4_1 = nI j_5 ∧ (∀ μ_7 : gMem, μ_7 = gsL μ_4 734 r0 1 ((μ_4.1 740 r0 j_5).toInt64) → ∀ μ_9 : gMem, μ_9 = gsL μ_7 734 r0 2 x3.toInt64 → ∃ j_10 : Nat, j_10 < 115 ∧ x4_1 = nI j_10 ∧ (∀ μ_12 : gMem, μ_12 = gsL μ_9 734 r0 3 ((μ_9.1 742 r0 j_10).toInt64) → ∃ j_13 : Nat, j_13 < 115 ∧ x4_1 = nI j_13 ∧ ((0 < d) ∧ (∀ μ_16 : gMem, μ_16 = gsL μ_12 734 r0 4 ((imax (0 : Int32) ((μ_12.1 740 r0 j_13) - x3)).toInt64) → ∃ (d_17 : Nat) (q_18 : Int32 → gMem → Prop), d_17 < d ∧ Ctr l D d_17 yX10_greatest cX10_greatest 4 (some .int) [.ref (D.2.2 10 r0), .int x1] μ_16 (pI q_18) ∧ ∀ (v_22 : Int32) (μ_21 : gMem), q_18 v_22 μ_21 → ∃ j_24 : Nat, j_24 < 115 ∧ x4_1 = nI j_24 ∧ (∀ μ_26 : gMem, μ_26 = gsL μ_21 734 r0 5 ((v_22 - (μ_21.1 744 r0 j_24)).toInt64) → ∃ j_27 : Nat, j_27 < 23 ∧ x1 = nI j_27 ∧ (∀ μ_29 : gMem, μ_29 = gsL μ_26 734 r0 6 ((μ_26.1 737 r0 j_27).toInt64) → q μ_29)))))))) : pt_X10_calls_0 l D d q Γ r0 x1 x2 x3 μ := by
  unfold pt_X10_calls_0
  refine g_iconst (5 : Int32) dX10_calls_0 rfl ?_
  refine g_iload_n dX10_calls_1 rfl ?_
  refine g_imul dX10_calls_2 ?_
  refine g_iload_n dX10_calls_3 rfl ?_
  refine g_iadd dX10_calls_4 ?_
  refine g_istore dX10_calls_5 (by decide) (fun x4_1 ex4_1 => g_sub (lv' := [(0, .ref (D.2.2 10 r0)), (1, .int x1), (3, .int x3), (4, .int x4_1)]) [1, 2, 4, 0] rfl ?_)
  have h := h x4_1 ex4_1
  refine g_aload_n dX10_calls_7 rfl ?_
  refine g_gfR fl_10_59 rfl hr0 dX10_calls_8 ?_
  refine g_iconst (0 : Int32) dX10_calls_11 rfl ?_
  refine g_aload_n dX10_calls_12 rfl ?_
  refine g_gfR fl_10_78 rfl hr0 dX10_calls_13 ?_
  refine g_iload dX10_calls_16 rfl ?_
  obtain ⟨j_2, hj_2, ej_2, h⟩ := h
  refine g_iald j_2 hr0 rfl hj_2 (by decide) ej_2 dX10_calls_18 ?_
  refine g_i2l dX10_calls_19 ?_
  refine g_last 0 hr0 rfl (by decide) (by decide) rfl dX10_calls_20 ?_
  obtain ⟨μ_4, eμ_4⟩ : ∃ z : gMem, z = gsL μ 734 r0 0 ((μ.1 741 r0 j_2).toInt64) := ⟨_, rfl⟩
  have h := h μ_4 eμ_4
  refine g_mem eμ_4.symm ?_
  refine g_aload_n dX10_calls_21 rfl ?_
  refine g_gfR fl_10_59 rfl hr0 dX10_calls_22 ?_
  refine g_iconst (1 : Int32) dX10_calls_25 rfl ?_
  refine g_aload_n dX10_calls_26 rfl ?_
  refine g_gfR fl_10_75 rfl hr0 dX10_calls_27 ?_
  refine g_iload dX10_calls_30 rfl ?_
  obtain ⟨j_5, hj_5, ej_5, h⟩ := h
  refine g_iald j_5 hr0 rfl hj_5 (by decide) ej_5 dX10_calls_32 ?_
  refine g_i2l dX10_calls_33 ?_
  refine g_last 1 hr0 rfl (by decide) (by decide) rfl dX10_calls_34 ?_
  obtain ⟨μ_7, eμ_7⟩ : ∃ z : gMem, z = gsL μ_4 734 r0 1 ((μ_4.1 740 r0 j_5).toInt64) := ⟨_, rfl⟩
  have h := h μ_7 eμ_7
  refine g_mem eμ_7.symm ?_
  refine g_aload_n dX10_calls_35 rfl ?_
  refine g_gfR fl_10_59 rfl hr0 dX10_calls_36 ?_
  refine g_iconst (2 : Int32) dX10_calls_39 rfl ?_
  refine g_iload_n dX10_calls_40 rfl ?_
  refine g_i2l dX10_calls_41 ?_
  refine g_last 2 hr0 rfl (by decide) (by decide) rfl dX10_calls_42 ?_
  obtain ⟨μ_9, eμ_9⟩ : ∃ z : gMem, z = gsL μ_7 734 r0 2 x3.toInt64 := ⟨_, rfl⟩
  have h := h μ_9 eμ_9
  refine g_mem eμ_9.symm ?_
  refine g_aload_n dX10_calls_43 rfl ?_
  refine g_gfR fl_10_59 rfl hr0 dX10_calls_44 ?_
  refine g_iconst (3 : Int32) dX10_calls_47 rfl ?_
  refine g_aload_n dX10_calls_48 rfl ?_
  refine g_gfR fl_10_81 rfl hr0 dX10_calls_49 ?_
  refine g_iload dX10_calls_52 rfl ?_
  obtain ⟨j_10, hj_10, ej_10, h⟩ := h
  refine g_iald j_10 hr0 rfl hj_10 (by decide) ej_10 dX10_calls_54 ?_
  refine g_i2l dX10_calls_55 ?_
  refine g_last 3 hr0 rfl (by decide) (by decide) rfl dX10_calls_56 ?_
  obtain ⟨μ_12, eμ_12⟩ : ∃ z : gMem, z = gsL μ_9 734 r0 3 ((μ_9.1 742 r0 j_10).toInt64) := ⟨_, rfl⟩
  have h := h μ_12 eμ_12
  refine g_mem eμ_12.symm ?_
  refine g_aload_n dX10_calls_57 rfl ?_
  refine g_gfR fl_10_59 rfl hr0 dX10_calls_58 ?_
  refine g_iconst (4 : Int32) dX10_calls_61 rfl ?_
  refine g_iconst (0 : Int32) dX10_calls_62 rfl ?_
  refine g_aload_n dX10_calls_63 rfl ?_
  refine g_gfR fl_10_75 rfl hr0 dX10_calls_64 ?_
  refine g_iload dX10_calls_67 rfl ?_
  obtain ⟨j_13, hj_13, ej_13, h⟩ := h
  refine g_iald j_13 hr0 rfl hj_13 (by decide) ej_13 dX10_calls_69 ?_
  refine g_iload_n dX10_calls_70 rfl ?_
  refine g_isub dX10_calls_71 ?_
  obtain ⟨hd_14, h⟩ := h
  refine g_mmax hd_14 mk_X10_337 (by first | exact Nat.le_of_ble_eq_true rfl | decide) dX10_calls_72 ?_
  refine g_i2l dX10_calls_75 ?_
  refine g_last 4 hr0 rfl (by decide) (by decide) rfl dX10_calls_76 ?_
  obtain ⟨μ_16, eμ_16⟩ : ∃ z : gMem, z = gsL μ_12 734 r0 4 ((imax (0 : Int32) ((μ_12.1 740 r0 j_13) - x3)).toInt64) := ⟨_, rfl⟩
  have h := h μ_16 eμ_16
  refine g_mem eμ_16.symm ?_
  refine g_aload_n dX10_calls_77 rfl ?_
  refine g_gfR fl_10_59 rfl hr0 dX10_calls_78 ?_
  refine g_iconst (5 : Int32) dX10_calls_81 rfl ?_
  refine g_aload_n dX10_calls_82 rfl ?_
  refine g_iload_n dX10_calls_83 rfl ?_
  obtain ⟨d_17, q_18, hd_19, hc_20, h⟩ := h
  refine g_cV ca_X10_340 ob_10 hc_20 hd_19 (by decide) hr0 rfl rfl (by first | exact Nat.le_of_ble_eq_true rfl | decide) dX10_calls_84 (kI (fun v_22 μ_21 hq_23 => ?_))
  have h := h v_22 μ_21 hq_23
  refine g_aload_n dX10_calls_87 rfl ?_
  refine g_gfR fl_10_87 rfl hr0 dX10_calls_88 ?_
  refine g_iload dX10_calls_91 rfl ?_
  obtain ⟨j_24, hj_24, ej_24, h⟩ := h
  refine g_iald j_24 hr0 rfl hj_24 (by decide) ej_24 dX10_calls_93 ?_
  refine g_isub dX10_calls_94 ?_
  refine g_i2l dX10_calls_95 ?_
  refine g_last 5 hr0 rfl (by decide) (by decide) rfl dX10_calls_96 ?_
  obtain ⟨μ_26, eμ_26⟩ : ∃ z : gMem, z = gsL μ_21 734 r0 5 ((v_22 - (μ_21.1 744 r0 j_24)).toInt64) := ⟨_, rfl⟩
  have h := h μ_26 eμ_26
  refine g_mem eμ_26.symm ?_
  refine g_aload_n dX10_calls_97 rfl ?_
  refine g_gfR fl_10_59 rfl hr0 dX10_calls_98 ?_
  refine g_bipush (6 : Int32) dX10_calls_101 rfl ?_
  refine g_aload_n dX10_calls_103 rfl ?_
  refine g_gfR fl_10_66 rfl hr0 dX10_calls_104 ?_
  refine g_iload_n dX10_calls_107 rfl ?_
  obtain ⟨j_27, hj_27, ej_27, h⟩ := h
  refine g_iald j_27 hr0 rfl hj_27 (by decide) ej_27 dX10_calls_108 ?_
  refine g_i2l dX10_calls_109 ?_
  refine g_last 6 hr0 rfl (by decide) (by decide) rfl dX10_calls_110 ?_
  obtain ⟨μ_29, eμ_29⟩ : ∃ z : gMem, z = gsL μ_26 734 r0 6 ((μ_26.1 737 r0 j_27).toInt64) := ⟨_, rfl⟩
  have h := h μ_29 eμ_29
  refine g_mem eμ_29.symm ?_
  exact g_vret dX10_calls_111 rfl ⟨rfl, h⟩
theorem en_X10_calls {l : Launch} {D : gD} {d : Nat} {q : gMem → Prop} {r0 : Nat} {x1 : Int32} {x2 : Int32} {x3 : Int32} {μ : gMem} (h : ∀ Γ : gC, pt_X10_calls_0 l D d q Γ r0 x1 x2 x3 μ) : Ctr l D d yX10_calls cX10_calls 5 none [.ref (D.2.2 10 r0), .int x1, .int x2, .int x3] μ (pV q) :=
  Ctr_of rfl (by decide) (Nat.le_of_ble_eq_true rfl) (fun Γ => g_sub [0, 1, 2, 3] rfl (h Γ))
def pt_X10_within_0 (l : Launch) (D : gD) (d : Nat) (q : Int32 → gMem → Prop) (Γ : gC) (r0 : Nat) (x1 : Int32) (x2 : Int32) (x3 : Int32) (μ : gMem) : Prop := G l D RX10 cX10_within 4 (some .int) d (pI q) Γ 0 [(0, .ref (D.2.2 10 r0)), (1, .int x1), (2, .int x2), (3, .int x3)] [] μ
set_option maxRecDepth 20000 in
set_option maxHeartbeats 4000000 in
theorem bl_X10_within_0 {l : Launch} {D : gD} {d : Nat} {q : Int32 → gMem → Prop} {Γ : gC} {r0 : Nat} {x1 : Int32} {x2 : Int32} {x3 : Int32} {μ : gMem} (hr0 : r0 < 1) (h : ∃ (d_1 : Nat) (q_2 : Int32 → gMem → Prop), d_1 < d ∧ Ctr l D d_1 yX10_hasLaw cX10_hasLaw 2 (some .boolean) [.ref (D.2.2 10 r0), .int x1] μ (pI q_2) ∧ ∀ (v_6 : Int32) (μ_5 : gMem), q_2 v_6 μ_5 → ((v_6 = 0) → q x3 μ_5) ∧ ((¬ v_6 = 0) → ∃ (d_9 : Nat) (q_10 : Int32 → gMem → Prop), d_9 < d ∧ Ctr l D d_9 yX10_goes cX10_goes 3 (some .boolean) [.ref (D.2.2 10 r0), .int x1] μ_5 (pI q_10) ∧ ∀ (v_14 : Int32) (μ_13 : gMem), q_10 v_14 μ_13 → ((¬ v_14 = 0) → (0 < d) ∧ ((0 < d) ∧ (q ((jmax (0 : Int64) (jmin x2.toInt64 (μ_13.2.1 735 r0 0))).toInt32) μ_13))) ∧ ((v_14 = 0) → q x3 μ_13))) : pt_X10_within_0 l D d q Γ r0 x1 x2 x3 μ := by
  unfold pt_X10_within_0
  refine g_aload_n dX10_within_0 rfl ?_
  refine g_iload_n dX10_within_1 rfl ?_
  obtain ⟨d_1, q_2, hd_3, hc_4, h⟩ := h
  refine g_cV ca_X10_343 ob_10 hc_4 hd_3 (by decide) hr0 rfl rfl (by first | exact Nat.le_of_ble_eq_true rfl | decide) dX10_within_2 (kI (fun v_6 μ_5 hq_7 => ?_))
  have h := h v_6 μ_5 hq_7
  refine g_if_eq (tgt := 16) dX10_within_5 (by decide) (fun c_8 => ?_) (fun c_8 => ?_)
  · have h := h.1 c_8
    refine g_iload_n dX10_within_16 rfl ?_
    exact g_iret dX10_within_17 rfl rfl ⟨_, rfl, h⟩
  · have h := h.2 c_8
    refine g_aload_n dX10_within_8 rfl ?_
    refine g_iload_n dX10_within_9 rfl ?_
    obtain ⟨d_9, q_10, hd_11, hc_12, h⟩ := h
    refine g_cV ca_X10_346 ob_10 hc_12 hd_11 (by decide) hr0 rfl rfl (by first | exact Nat.le_of_ble_eq_true rfl | decide) dX10_within_10 (kI (fun v_14 μ_13 hq_15 => ?_))
    have h := h v_14 μ_13 hq_15
    refine g_if_ne (tgt := 18) dX10_within_13 (by decide) (fun c_16 => ?_) (fun c_16 => ?_)
    · have h := h.1 c_16
      refine g_lconst (0 : Int64) dX10_within_18 rfl ?_
      refine g_iload_n dX10_within_19 rfl ?_
      refine g_i2l dX10_within_20 ?_
      refine g_aload_n dX10_within_21 rfl ?_
      refine g_gfR fl_10_63 rfl hr0 dX10_within_22 ?_
      refine g_iconst (0 : Int32) dX10_within_25 rfl ?_
      refine g_lald 0 hr0 rfl (by decide) (by decide) rfl dX10_within_26 ?_
      obtain ⟨hd_18, h⟩ := h
      refine g_mmin_long hd_18 mk_X10_349 (by first | exact Nat.le_of_ble_eq_true rfl | decide) dX10_within_27 ?_
      obtain ⟨hd_19, h⟩ := h
      refine g_mmax_long hd_19 mk_X10_353 (by first | exact Nat.le_of_ble_eq_true rfl | decide) dX10_within_30 ?_
      refine g_l2i dX10_within_33 ?_
      exact g_iret dX10_within_34 rfl rfl ⟨_, rfl, h⟩
    · have h := h.2 c_16
      refine g_iload_n dX10_within_16 rfl ?_
      exact g_iret dX10_within_17 rfl rfl ⟨_, rfl, h⟩
theorem en_X10_within {l : Launch} {D : gD} {d : Nat} {q : Int32 → gMem → Prop} {r0 : Nat} {x1 : Int32} {x2 : Int32} {x3 : Int32} {μ : gMem} (h : ∀ Γ : gC, pt_X10_within_0 l D d q Γ r0 x1 x2 x3 μ) : Ctr l D d yX10_within cX10_within 4 (some .int) [.ref (D.2.2 10 r0), .int x1, .int x2, .int x3] μ (pI q) :=
  Ctr_of rfl (by decide) (Nat.le_of_ble_eq_true rfl) (fun Γ => g_sub [0, 1, 2, 3] rfl (h Γ))
def pt_X10_deedSteps_0 (l : Launch) (D : gD) (d : Nat) (q : Int32 → gMem → Prop) (Γ : gC) (r0 : Nat) (x1 : Int32) (x2 : Int32) (k3 : Nat) (i3 : Nat) (μ : gMem) : Prop := G l D RX10 cX10_deedSteps 6 (some .int) d (pI q) Γ 0 [(0, .ref (D.2.2 10 r0)), (1, .int x1), (2, .int x2), (3, .ref (D.2.2 k3 i3))] [] μ
def pt_X10_deedSteps_1 (l : Launch) (D : gD) (d : Nat) (q : Int32 → gMem → Prop) (Γ : gC) (r0 : Nat) (x1 : Int32) (x2 : Int32) (k3 : Nat) (i3 : Nat) (x4 : Int32) (x5 : Int32) (μ : gMem) : Prop := G l D RX10 cX10_deedSteps 6 (some .int) d (pI q) Γ 6 [(0, .ref (D.2.2 10 r0)), (1, .int x1), (2, .int x2), (3, .ref (D.2.2 k3 i3)), (4, .int x4), (5, .int x5)] [] μ
set_option maxRecDepth 20000 in
set_option maxHeartbeats 4000000 in
theorem bl_X10_deedSteps_0 {l : Launch} {D : gD} {d : Nat} {q : Int32 → gMem → Prop} {Γ : gC} {r0 : Nat} {x1 : Int32} {x2 : Int32} {k3 : Nat} {i3 : Nat} {μ : gMem} (hr0 : r0 < 1) (hk3 : gsh k3 = (1, (gsh k3).2.1, 0)) (hi3 : i3 < gkn k3) (h : ∀ x4_1 : Int32, x4_1 = (0 : Int32) → ∀ x5_2 : Int32, x5_2 = (0 : Int32) → pt_X10_deedSteps_1 l D d q Γ r0 x1 x2 k3 i3 x4_1 x5_2 μ) : pt_X10_deedSteps_0 l D d q Γ r0 x1 x2 k3 i3 μ := by
  unfold pt_X10_deedSteps_0
  refine g_iconst (0 : Int32) dX10_deedSteps_0 rfl ?_
  refine g_istore dX10_deedSteps_1 (by decide) (fun x4_1 ex4_1 => g_sub (lv' := [(0, .ref (D.2.2 10 r0)), (1, .int x1), (2, .int x2), (3, .ref (D.2.2 k3 i3)), (4, .int x4_1)]) [1, 2, 3, 4, 0] rfl ?_)
  have h := h x4_1 ex4_1
  refine g_iconst (0 : Int32) dX10_deedSteps_3 rfl ?_
  refine g_istore dX10_deedSteps_4 (by decide) (fun x5_2 ex5_2 => g_sub (lv' := [(0, .ref (D.2.2 10 r0)), (1, .int x1), (2, .int x2), (3, .ref (D.2.2 k3 i3)), (4, .int x4_1), (5, .int x5_2)]) [1, 2, 3, 4, 5, 0] rfl ?_)
  have h := h x5_2 ex5_2
  exact g_sub [0, 1, 2, 3, 4, 5] rfl h
set_option maxRecDepth 20000 in
set_option maxHeartbeats 4000000 in
theorem bl_X10_deedSteps_1 {l : Launch} {D : gD} {d : Nat} {q : Int32 → gMem → Prop} {Γ : gC} {r0 : Nat} {x1 : Int32} {x2 : Int32} {k3 : Nat} {i3 : Nat} {x4 : Int32} {x5 : Int32} {μ : gMem} (hr0 : r0 < 1) (hk3 : gsh k3 = (1, (gsh k3).2.1, 0)) (hi3 : i3 < gkn k3) (h : (((μ.1 707 r0 1) ≤ x5) → q x4 μ) ∧ ((¬ (μ.1 707 r0 1) ≤ x5) → (((μ.1 10 r0 51) = (4 : Int32)) → q x4 μ) ∧ ((¬ (μ.1 10 r0 51) = (4 : Int32)) → ∃ j_4 : Nat, j_4 < 690 ∧ (((30 : Int32) * x1) + ((6 : Int32) * x2)) + x5 = nI j_4 ∧ (∃ j_5 : Nat, j_5 < (gsh k3).2.1 ∧ (gsh k3).2.1 < 2 ^ 31 ∧ x5 = nI j_5 ∧ (∀ x4_7 : Int32, x4_7 = x4 + ((μ.1 751 r0 j_4) * (μ.1 k3 i3 j_5)) → ∀ x5_8 : Int32, x5_8 = x5 + (1 : Int32) → pt_X10_deedSteps_1 l D d q Γ r0 x1 x2 k3 i3 x4_7 x5_8 μ))))) : pt_X10_deedSteps_1 l D d q Γ r0 x1 x2 k3 i3 x4 x5 μ := by
  unfold pt_X10_deedSteps_1
  refine g_iload dX10_deedSteps_6 rfl ?_
  refine g_aload_n dX10_deedSteps_8 rfl ?_
  refine g_gfR fl_10_13 rfl hr0 dX10_deedSteps_9 ?_
  refine g_iconst (1 : Int32) dX10_deedSteps_12 rfl ?_
  refine g_iald 1 hr0 rfl (by decide) (by decide) rfl dX10_deedSteps_13 ?_
  refine g_icmp_ge (tgt := 58) dX10_deedSteps_14 (by decide) (fun c_2 => ?_) (fun c_2 => ?_)
  · have h := h.1 c_2
    refine g_iload dX10_deedSteps_58 rfl ?_
    exact g_iret dX10_deedSteps_60 rfl rfl ⟨_, rfl, h⟩
  · have h := h.2 c_2
    refine g_aload_n dX10_deedSteps_17 rfl ?_
    refine g_gfI fi_10_331 hr0 dX10_deedSteps_18 ?_
    refine g_iconst (4 : Int32) dX10_deedSteps_21 rfl ?_
    refine g_icmp_eq (tgt := 58) dX10_deedSteps_22 (by decide) (fun c_3 => ?_) (fun c_3 => ?_)
    · have h := h.1 c_3
      refine g_iload dX10_deedSteps_58 rfl ?_
      exact g_iret dX10_deedSteps_60 rfl rfl ⟨_, rfl, h⟩
    · have h := h.2 c_3
      refine g_iload dX10_deedSteps_25 rfl ?_
      refine g_aload_n dX10_deedSteps_27 rfl ?_
      refine g_gfR fl_10_108 rfl hr0 dX10_deedSteps_28 ?_
      refine g_bipush (30 : Int32) dX10_deedSteps_31 rfl ?_
      refine g_iload_n dX10_deedSteps_33 rfl ?_
      refine g_imul dX10_deedSteps_34 ?_
      refine g_bipush (6 : Int32) dX10_deedSteps_35 rfl ?_
      refine g_iload_n dX10_deedSteps_37 rfl ?_
      refine g_imul dX10_deedSteps_38 ?_
      refine g_iadd dX10_deedSteps_39 ?_
      refine g_iload dX10_deedSteps_40 rfl ?_
      refine g_iadd dX10_deedSteps_42 ?_
      obtain ⟨j_4, hj_4, ej_4, h⟩ := h
      refine g_iald j_4 hr0 rfl hj_4 (by decide) ej_4 dX10_deedSteps_43 ?_
      refine g_aload_n dX10_deedSteps_44 rfl ?_
      refine g_iload dX10_deedSteps_45 rfl ?_
      obtain ⟨j_5, hj_5, hn_6, ej_5, h⟩ := h
      refine g_iald j_5 hi3 hk3 hj_5 hn_6 ej_5 dX10_deedSteps_47 ?_
      refine g_imul dX10_deedSteps_48 ?_
      refine g_iadd dX10_deedSteps_49 ?_
      refine g_istore dX10_deedSteps_50 (by decide) (fun x4_7 ex4_7 => g_sub (lv' := [(0, .ref (D.2.2 10 r0)), (1, .int x1), (2, .int x2), (3, .ref (D.2.2 k3 i3)), (4, .int x4_7), (5, .int x5)]) [1, 2, 3, 4, 0, 5] rfl ?_)
      have h := h x4_7 ex4_7
      refine g_iinc dX10_deedSteps_52 rfl (by decide) (fun x5_8 ex5_8 => g_sub (lv' := [(0, .ref (D.2.2 10 r0)), (1, .int x1), (2, .int x2), (3, .ref (D.2.2 k3 i3)), (4, .int x4_7), (5, .int x5_8)]) [1, 2, 3, 4, 5, 0] rfl ?_)
      have h := h x5_8 ex5_8
      refine g_goto (tgt := 6) dX10_deedSteps_55 (by decide) ?_
      exact g_sub [0, 1, 2, 3, 4, 5] rfl h
theorem en_X10_deedSteps {l : Launch} {D : gD} {d : Nat} {q : Int32 → gMem → Prop} {r0 : Nat} {x1 : Int32} {x2 : Int32} {k3 : Nat} {i3 : Nat} {μ : gMem} (h : ∀ Γ : gC, pt_X10_deedSteps_0 l D d q Γ r0 x1 x2 k3 i3 μ) : Ctr l D d yX10_deedSteps cX10_deedSteps 6 (some .int) [.ref (D.2.2 10 r0), .int x1, .int x2, .ref (D.2.2 k3 i3)] μ (pI q) :=
  Ctr_of rfl (by decide) (Nat.le_of_ble_eq_true rfl) (fun Γ => g_sub [0, 1, 2, 3] rfl (h Γ))
def pt_X10_walks_0 (l : Launch) (D : gD) (d : Nat) (q : gMem → Prop) (Γ : gC) (r0 : Nat) (x1 : Int32) (x2 : Int32) (x3 : Int32) (μ : gMem) : Prop := G l D RX10 cX10_walks 11 none d (pV q) Γ 0 [(0, .ref (D.2.2 10 r0)), (1, .int x1), (2, .int x2), (3, .int x3)] [] μ
def pt_X10_walks_1 (l : Launch) (D : gD) (d : Nat) (q : gMem → Prop) (Γ : gC) (r0 : Nat) (x1 : Int32) (x2 : Int32) (x4 : Int32) (xs0 : Int32) (μ : gMem) : Prop := G l D RX10 cX10_walks 11 none d (pV q) Γ 30 [(0, .ref (D.2.2 10 r0)), (1, .int x1), (2, .int x2), (4, .int x4)] [.int xs0] μ
def pt_X10_walks_2 (l : Launch) (D : gD) (d : Nat) (q : gMem → Prop) (Γ : gC) (r0 : Nat) (x1 : Int32) (x2 : Int32) (x4 : Int32) (x6 : Int32) (xs0 : Int32) (xs1 : Int32) (μ : gMem) : Prop := G l D RX10 cX10_walks 11 none d (pV q) Γ 80 [(0, .ref (D.2.2 10 r0)), (1, .int x1), (2, .int x2), (4, .int x4), (6, .int x6)] [.int xs1, .int xs0] μ
def pt_X10_walks_3 (l : Launch) (D : gD) (d : Nat) (q : gMem → Prop) (Γ : gC) (r0 : Nat) (x1 : Int32) (x2 : Int32) (x4 : Int32) (x6 : Int32) (x7 : Int32) (μ : gMem) : Prop := G l D RX10 cX10_walks 11 none d (pV q) Γ 166 [(0, .ref (D.2.2 10 r0)), (1, .int x1), (2, .int x2), (4, .int x4), (6, .int x6), (7, .int x7)] [] μ
def pt_X10_walks_4 (l : Launch) (D : gD) (d : Nat) (q : gMem → Prop) (Γ : gC) (r0 : Nat) (x1 : Int32) (x2 : Int32) (x4 : Int32) (x7 : Int32) (x8 : Int32) (xs0 : Int32) (μ : gMem) : Prop := G l D RX10 cX10_walks 11 none d (pV q) Γ 216 [(0, .ref (D.2.2 10 r0)), (1, .int x1), (2, .int x2), (4, .int x4), (7, .int x7), (8, .int x8)] [.int xs0] μ
def pt_X10_walks_5 (l : Launch) (D : gD) (d : Nat) (q : gMem → Prop) (Γ : gC) (r0 : Nat) (x1 : Int32) (x2 : Int32) (x4 : Int32) (x7 : Int32) (x8 : Int32) (x9 : Int32) (rs0 : Nat) (xs1 : Int32) (xs2 : Int32) (μ : gMem) : Prop := G l D RX10 cX10_walks 11 none d (pV q) Γ 237 [(0, .ref (D.2.2 10 r0)), (1, .int x1), (2, .int x2), (4, .int x4), (7, .int x7), (8, .int x8), (9, .int x9)] [.int xs2, .int xs1, .ref (D.2.2 742 rs0)] μ
def pt_X10_walks_6 (l : Launch) (D : gD) (d : Nat) (q : gMem → Prop) (Γ : gC) (r0 : Nat) (x1 : Int32) (x2 : Int32) (x4 : Int32) (x7 : Int32) (x8 : Int32) (x9 : Int32) (μ : gMem) : Prop := G l D RX10 cX10_walks 11 none d (pV q) Γ 259 [(0, .ref (D.2.2 10 r0)), (1, .int x1), (2, .int x2), (4, .int x4), (7, .int x7), (8, .int x8), (9, .int x9)] [] μ
def pt_X10_walks_7 (l : Launch) (D : gD) (d : Nat) (q : gMem → Prop) (Γ : gC) (r0 : Nat) (x1 : Int32) (x2 : Int32) (x4 : Int32) (x7 : Int32) (x8 : Int32) (x9 : Int32) (μ : gMem) : Prop := G l D RX10 cX10_walks 11 none d (pV q) Γ 287 [(0, .ref (D.2.2 10 r0)), (1, .int x1), (2, .int x2), (4, .int x4), (7, .int x7), (8, .int x8), (9, .int x9)] [] μ
def pt_X10_walks_8 (l : Launch) (D : gD) (d : Nat) (q : gMem → Prop) (Γ : gC) (r0 : Nat) (x4 : Int32) (x8 : Int32) (x9 : Int32) (x10 : Int32) (μ : gMem) : Prop := G l D RX10 cX10_walks 11 none d (pV q) Γ 370 [(0, .ref (D.2.2 10 r0)), (4, .int x4), (8, .int x8), (9, .int x9), (10, .int x10)] [] μ
def pt_X10_walks_9 (l : Launch) (D : gD) (d : Nat) (q : gMem → Prop) (Γ : gC) (r0 : Nat) (x4 : Int32) (x10 : Int32) (μ : gMem) : Prop := G l D RX10 cX10_walks 11 none d (pV q) Γ 391 [(0, .ref (D.2.2 10 r0)), (4, .int x4), (10, .int x10)] [] μ
set_option maxRecDepth 20000 in
set_option maxHeartbeats 4000000 in
theorem bl_X10_walks_0 {l : Launch} {D : gD} {d : Nat} {q : gMem → Prop} {Γ : gC} {r0 : Nat} {x1 : Int32} {x2 : Int32} {x3 : Int32} {μ : gMem} (hr0 : r0 < 1) (h : ∀ x4_1 : Int32, x4_1 = ((5 : Int32) * x1) + x2 → ((x3 = 0) → ∃ j_3 : Nat, j_3 < 115 ∧ x4_1 = nI j_3 ∧ (pt_X10_walks_1 l D d q Γ r0 x1 x2 x4_1 (μ.1 741 r0 j_3) μ)) ∧ ((¬ x3 = 0) → ∃ j_4 : Nat, j_4 < 115 ∧ x4_1 = nI j_4 ∧ (pt_X10_walks_1 l D d q Γ r0 x1 x2 x4_1 ((μ.1 741 r0 j_4) / (2 : Int32)) μ))) : pt_X10_walks_0 l D d q Γ r0 x1 x2 x3 μ := by
  unfold pt_X10_walks_0
  refine g_iconst (5 : Int32) dX10_walks_0 rfl ?_
  refine g_iload_n dX10_walks_1 rfl ?_
  refine g_imul dX10_walks_2 ?_
  refine g_iload_n dX10_walks_3 rfl ?_
  refine g_iadd dX10_walks_4 ?_
  refine g_istore dX10_walks_5 (by decide) (fun x4_1 ex4_1 => g_sub (lv' := [(0, .ref (D.2.2 10 r0)), (1, .int x1), (2, .int x2), (3, .int x3), (4, .int x4_1)]) [1, 2, 3, 4, 0] rfl ?_)
  have h := h x4_1 ex4_1
  refine g_iload_n dX10_walks_7 rfl ?_
  refine g_if_eq (tgt := 23) dX10_walks_8 (by decide) (fun c_2 => ?_) (fun c_2 => ?_)
  · have h := h.1 c_2
    refine g_aload_n dX10_walks_23 rfl ?_
    refine g_gfR fl_10_78 rfl hr0 dX10_walks_24 ?_
    refine g_iload dX10_walks_27 rfl ?_
    obtain ⟨j_3, hj_3, ej_3, h⟩ := h
    refine g_iald j_3 hr0 rfl hj_3 (by decide) ej_3 dX10_walks_29 ?_
    exact g_sub [0, 1, 2, 4] rfl h
  · have h := h.2 c_2
    refine g_aload_n dX10_walks_11 rfl ?_
    refine g_gfR fl_10_78 rfl hr0 dX10_walks_12 ?_
    refine g_iload dX10_walks_15 rfl ?_
    obtain ⟨j_4, hj_4, ej_4, h⟩ := h
    refine g_iald j_4 hr0 rfl hj_4 (by decide) ej_4 dX10_walks_17 ?_
    refine g_iconst (2 : Int32) dX10_walks_18 rfl ?_
    refine g_idiv dX10_walks_19 (by decide) ?_
    refine g_goto (tgt := 30) dX10_walks_20 (by decide) ?_
    exact g_sub [0, 1, 2, 4] rfl h
set_option maxRecDepth 20000 in
set_option maxHeartbeats 4000000 in
theorem bl_X10_walks_1 {l : Launch} {D : gD} {d : Nat} {q : gMem → Prop} {Γ : gC} {r0 : Nat} {x1 : Int32} {x2 : Int32} {x4 : Int32} {xs0 : Int32} {μ : gMem} (hr0 : r0 < 1) (h : ∀ x5_1 : Int32, x5_1 = xs0 → ∃ (d_2 : Nat) (q_3 : Int32 → gMem → Prop), d_2 < d ∧ Ctr l D d_2 yX10_deedSteps cX10_deedSteps 6 (some .int) [.ref (D.2.2 10 r0), .int x1, .int x2, .ref (D.2.2 713 r0)] μ (pI q_3) ∧ ∀ (v_7 : Int32) (μ_6 : gMem), q_3 v_7 μ_6 → ∀ x6_9 : Int32, x6_9 = x5_1 + v_7 → ∃ j_10 : Nat, j_10 < 115 ∧ x4 = nI j_10 ∧ (∃ (d_11 : Nat) (q_12 : Int32 → gMem → Prop), d_11 < d ∧ Ctr l D d_11 yX10_hasBand cX10_hasBand 3 (some .boolean) [.ref (D.2.2 10 r0), .int x1, .int x2] μ_6 (pI q_12) ∧ ∀ (v_16 : Int32) (μ_15 : gMem), q_12 v_16 μ_15 → ((v_16 = 0) → pt_X10_walks_2 l D d q Γ r0 x1 x2 x4 x6_9 (μ_6.1 748 r0 j_10) (0 : Int32) μ_15) ∧ ((¬ v_16 = 0) → ∃ (d_19 : Nat) (q_20 : Int32 → gMem → Prop), d_19 < d ∧ Ctr l D d_19 yX10_deedSteps cX10_deedSteps 6 (some .int) [.ref (D.2.2 10 r0), .int x1, .int x2, .ref (D.2.2 714 r0)] μ_15 (pI q_20) ∧ ∀ (v_24 : Int32) (μ_23 : gMem), q_20 v_24 μ_23 → pt_X10_walks_2 l D d q Γ r0 x1 x2 x4 x6_9 (μ_6.1 748 r0 j_10) (x5_1 + v_24) μ_23))) : pt_X10_walks_1 l D d q Γ r0 x1 x2 x4 xs0 μ := by
  unfold pt_X10_walks_1
  refine g_istore dX10_walks_30 (by decide) (fun x5_1 ex5_1 => g_sub (lv' := [(0, .ref (D.2.2 10 r0)), (1, .int x1), (2, .int x2), (4, .int x4), (5, .int x5_1)]) [1, 2, 3, 4, 0] rfl ?_)
  have h := h x5_1 ex5_1
  refine g_iload dX10_walks_32 rfl ?_
  refine g_aload_n dX10_walks_34 rfl ?_
  refine g_iload_n dX10_walks_35 rfl ?_
  refine g_iload_n dX10_walks_36 rfl ?_
  refine g_aload_n dX10_walks_37 rfl ?_
  refine g_gfR fl_10_31 rfl hr0 dX10_walks_38 ?_
  obtain ⟨d_2, q_3, hd_4, hc_5, h⟩ := h
  refine g_cV ca_X10_355 ob_10 hc_5 hd_4 (by decide) hr0 rfl rfl (by first | exact Nat.le_of_ble_eq_true rfl | decide) dX10_walks_41 (kI (fun v_7 μ_6 hq_8 => ?_))
  have h := h v_7 μ_6 hq_8
  refine g_iadd dX10_walks_44 ?_
  refine g_istore dX10_walks_45 (by decide) (fun x6_9 ex6_9 => g_sub (lv' := [(0, .ref (D.2.2 10 r0)), (1, .int x1), (2, .int x2), (4, .int x4), (5, .int x5_1), (6, .int x6_9)]) [1, 2, 3, 4, 5, 0] rfl ?_)
  have h := h x6_9 ex6_9
  refine g_aload_n dX10_walks_47 rfl ?_
  refine g_gfR fl_10_99 rfl hr0 dX10_walks_48 ?_
  refine g_iload dX10_walks_51 rfl ?_
  obtain ⟨j_10, hj_10, ej_10, h⟩ := h
  refine g_iald j_10 hr0 rfl hj_10 (by decide) ej_10 dX10_walks_53 ?_
  refine g_aload_n dX10_walks_54 rfl ?_
  refine g_iload_n dX10_walks_55 rfl ?_
  refine g_iload_n dX10_walks_56 rfl ?_
  obtain ⟨d_11, q_12, hd_13, hc_14, h⟩ := h
  refine g_cV ca_X10_359 ob_10 hc_14 hd_13 (by decide) hr0 rfl rfl (by first | exact Nat.le_of_ble_eq_true rfl | decide) dX10_walks_57 (kI (fun v_16 μ_15 hq_17 => ?_))
  have h := h v_16 μ_15 hq_17
  refine g_if_eq (tgt := 79) dX10_walks_60 (by decide) (fun c_18 => ?_) (fun c_18 => ?_)
  · have h := h.1 c_18
    refine g_iconst (0 : Int32) dX10_walks_79 rfl ?_
    exact g_sub [0, 1, 2, 3, 5] rfl h
  · have h := h.2 c_18
    refine g_iload dX10_walks_63 rfl ?_
    refine g_aload_n dX10_walks_65 rfl ?_
    refine g_iload_n dX10_walks_66 rfl ?_
    refine g_iload_n dX10_walks_67 rfl ?_
    refine g_aload_n dX10_walks_68 rfl ?_
    refine g_gfR fl_10_34 rfl hr0 dX10_walks_69 ?_
    obtain ⟨d_19, q_20, hd_21, hc_22, h⟩ := h
    refine g_cV ca_X10_355 ob_10 hc_22 hd_21 (by decide) hr0 rfl rfl (by first | exact Nat.le_of_ble_eq_true rfl | decide) dX10_walks_72 (kI (fun v_24 μ_23 hq_25 => ?_))
    have h := h v_24 μ_23 hq_25
    refine g_iadd dX10_walks_75 ?_
    refine g_goto (tgt := 80) dX10_walks_76 (by decide) ?_
    exact g_sub [0, 1, 2, 3, 5] rfl h
set_option maxRecDepth 20000 in
set_option maxHeartbeats 4000000 in
theorem bl_X10_walks_2 {l : Launch} {D : gD} {d : Nat} {q : gMem → Prop} {Γ : gC} {r0 : Nat} {x1 : Int32} {x2 : Int32} {x4 : Int32} {x6 : Int32} {xs0 : Int32} {xs1 : Int32} {μ : gMem} (hr0 : r0 < 1) (h : ∀ x7_1 : Int32, x7_1 = xs0 + xs1 → ∃ j_2 : Nat, j_2 < 115 ∧ x4 = nI j_2 ∧ ((((μ.1 740 r0 j_2) ≤ x7_1) → pt_X10_walks_3 l D d q Γ r0 x1 x2 x4 x6 x7_1 μ) ∧ ((¬ (μ.1 740 r0 j_2) ≤ x7_1) → ∃ (d_4 : Nat) (q_5 : Int32 → gMem → Prop), d_4 < d ∧ Ctr l D d_4 yX10_hasBand cX10_hasBand 3 (some .boolean) [.ref (D.2.2 10 r0), .int x1, .int x2] μ (pI q_5) ∧ ∀ (v_9 : Int32) (μ_8 : gMem), q_5 v_9 μ_8 → ((v_9 = 0) → pt_X10_walks_3 l D d q Γ r0 x1 x2 x4 x6 x7_1 μ_8) ∧ ((¬ v_9 = 0) → (((μ_8.1 10 r0 51) = (5 : Int32)) → pt_X10_walks_3 l D d q Γ r0 x1 x2 x4 x6 x7_1 μ_8) ∧ ((¬ (μ_8.1 10 r0 51) = (5 : Int32)) → ∃ (d_13 : Nat) (q_14 : gMem → Prop), d_13 < d ∧ Ctr l D d_13 yX10_calls cX10_calls 5 none [.ref (D.2.2 10 r0), .int x1, .int x2, .int x7_1] μ_8 (pV q_14) ∧ ∀ (μ_17 : gMem), q_14 μ_17 → ∃ j_20 : Nat, j_20 < 115 ∧ x4 = nI j_20 ∧ (∀ x8_21 : Int32, x8_21 = (μ_17.1 740 r0 j_20) - x7_1 → ∃ j_22 : Nat, j_22 < 10 ∧ x2 = nI j_22 ∧ (∃ (d_23 : Nat) (q_24 : Int32 → gMem → Prop), d_23 < d ∧ Ctr l D d_23 yX10_within cX10_within 4 (some .int) [.ref (D.2.2 10 r0), .int (0 : Int32), .int (99 : Int32), .int (μ_17.1 711 r0 j_22)] μ_17 (pI q_24) ∧ ∀ (v_28 : Int32) (μ_27 : gMem), q_24 v_28 μ_27 → ((v_28 < x8_21) → pt_X10_walks_3 l D d q Γ r0 x1 x2 x4 x6 x7_1 μ_27) ∧ ((¬ v_28 < x8_21) → ∀ x6_31 : Int32, x6_31 = x6 + x8_21 → ∃ j_32 : Nat, j_32 < 115 ∧ x4 = nI j_32 ∧ (∀ x7_33 : Int32, x7_33 = μ_27.1 740 r0 j_32 → pt_X10_walks_3 l D d q Γ r0 x1 x2 x4 x6_31 x7_33 μ_27))))))))) : pt_X10_walks_2 l D d q Γ r0 x1 x2 x4 x6 xs0 xs1 μ := by
  unfold pt_X10_walks_2
  refine g_iadd dX10_walks_80 ?_
  refine g_istore dX10_walks_81 (by decide) (fun x7_1 ex7_1 => g_sub (lv' := [(0, .ref (D.2.2 10 r0)), (1, .int x1), (2, .int x2), (4, .int x4), (6, .int x6), (7, .int x7_1)]) [1, 2, 3, 4, 5, 0] rfl ?_)
  have h := h x7_1 ex7_1
  refine g_iload dX10_walks_83 rfl ?_
  refine g_aload_n dX10_walks_85 rfl ?_
  refine g_gfR fl_10_75 rfl hr0 dX10_walks_86 ?_
  refine g_iload dX10_walks_89 rfl ?_
  obtain ⟨j_2, hj_2, ej_2, h⟩ := h
  refine g_iald j_2 hr0 rfl hj_2 (by decide) ej_2 dX10_walks_91 ?_
  refine g_icmp_ge (tgt := 166) dX10_walks_92 (by decide) (fun c_3 => ?_) (fun c_3 => ?_)
  · have h := h.1 c_3
    exact g_sub [0, 1, 2, 3, 4, 5] rfl h
  · have h := h.2 c_3
    refine g_aload_n dX10_walks_95 rfl ?_
    refine g_iload_n dX10_walks_96 rfl ?_
    refine g_iload_n dX10_walks_97 rfl ?_
    obtain ⟨d_4, q_5, hd_6, hc_7, h⟩ := h
    refine g_cV ca_X10_359 ob_10 hc_7 hd_6 (by decide) hr0 rfl rfl (by first | exact Nat.le_of_ble_eq_true rfl | decide) dX10_walks_98 (kI (fun v_9 μ_8 hq_10 => ?_))
    have h := h v_9 μ_8 hq_10
    refine g_if_eq (tgt := 166) dX10_walks_101 (by decide) (fun c_11 => ?_) (fun c_11 => ?_)
    · have h := h.1 c_11
      exact g_sub [0, 1, 2, 3, 4, 5] rfl h
    · have h := h.2 c_11
      refine g_aload_n dX10_walks_104 rfl ?_
      refine g_gfI fi_10_331 hr0 dX10_walks_105 ?_
      refine g_iconst (5 : Int32) dX10_walks_108 rfl ?_
      refine g_icmp_eq (tgt := 166) dX10_walks_109 (by decide) (fun c_12 => ?_) (fun c_12 => ?_)
      · have h := h.1 c_12
        exact g_sub [0, 1, 2, 3, 4, 5] rfl h
      · have h := h.2 c_12
        refine g_aload_n dX10_walks_112 rfl ?_
        refine g_iload_n dX10_walks_113 rfl ?_
        refine g_iload_n dX10_walks_114 rfl ?_
        refine g_iload dX10_walks_115 rfl ?_
        obtain ⟨d_13, q_14, hd_15, hc_16, h⟩ := h
        refine g_cV ca_X10_363 ob_10 hc_16 hd_15 (by decide) hr0 rfl rfl (by first | exact Nat.le_of_ble_eq_true rfl | decide) dX10_walks_117 (kV (fun μ_17 hq_19 => ?_))
        have h := h μ_17 hq_19
        refine g_aload_n dX10_walks_120 rfl ?_
        refine g_gfR fl_10_75 rfl hr0 dX10_walks_121 ?_
        refine g_iload dX10_walks_124 rfl ?_
        obtain ⟨j_20, hj_20, ej_20, h⟩ := h
        refine g_iald j_20 hr0 rfl hj_20 (by decide) ej_20 dX10_walks_126 ?_
        refine g_iload dX10_walks_127 rfl ?_
        refine g_isub dX10_walks_129 ?_
        refine g_istore dX10_walks_130 (by decide) (fun x8_21 ex8_21 => g_sub (lv' := [(0, .ref (D.2.2 10 r0)), (1, .int x1), (2, .int x2), (4, .int x4), (6, .int x6), (7, .int x7_1), (8, .int x8_21)]) [1, 2, 3, 4, 5, 6, 0] rfl ?_)
        have h := h x8_21 ex8_21
        refine g_iload dX10_walks_132 rfl ?_
        refine g_aload_n dX10_walks_134 rfl ?_
        refine g_iconst (0 : Int32) dX10_walks_135 rfl ?_
        refine g_bipush (99 : Int32) dX10_walks_136 rfl ?_
        refine g_aload_n dX10_walks_138 rfl ?_
        refine g_gfR fl_10_25 rfl hr0 dX10_walks_139 ?_
        refine g_iload_n dX10_walks_142 rfl ?_
        obtain ⟨j_22, hj_22, ej_22, h⟩ := h
        refine g_iald j_22 hr0 rfl hj_22 (by decide) ej_22 dX10_walks_143 ?_
        obtain ⟨d_23, q_24, hd_25, hc_26, h⟩ := h
        refine g_cV ca_X10_367 ob_10 hc_26 hd_25 (by decide) hr0 rfl rfl (by first | exact Nat.le_of_ble_eq_true rfl | decide) dX10_walks_144 (kI (fun v_28 μ_27 hq_29 => ?_))
        have h := h v_28 μ_27 hq_29
        refine g_icmp_gt (tgt := 166) dX10_walks_147 (by decide) (fun c_30 => ?_) (fun c_30 => ?_)
        · have h := h.1 c_30
          exact g_sub [0, 1, 2, 3, 4, 5] rfl h
        · have h := h.2 c_30
          refine g_iload dX10_walks_150 rfl ?_
          refine g_iload dX10_walks_152 rfl ?_
          refine g_iadd dX10_walks_154 ?_
          refine g_istore dX10_walks_155 (by decide) (fun x6_31 ex6_31 => g_sub (lv' := [(0, .ref (D.2.2 10 r0)), (1, .int x1), (2, .int x2), (4, .int x4), (6, .int x6_31)]) [1, 2, 3, 4, 0] rfl ?_)
          have h := h x6_31 ex6_31
          refine g_aload_n dX10_walks_157 rfl ?_
          refine g_gfR fl_10_75 rfl hr0 dX10_walks_158 ?_
          refine g_iload dX10_walks_161 rfl ?_
          obtain ⟨j_32, hj_32, ej_32, h⟩ := h
          refine g_iald j_32 hr0 rfl hj_32 (by decide) ej_32 dX10_walks_163 ?_
          refine g_istore dX10_walks_164 (by decide) (fun x7_33 ex7_33 => g_sub (lv' := [(0, .ref (D.2.2 10 r0)), (1, .int x1), (2, .int x2), (4, .int x4), (6, .int x6_31), (7, .int x7_33)]) [1, 2, 3, 4, 5, 0] rfl ?_)
          have h := h x7_33 ex7_33
          exact g_sub [0, 1, 2, 3, 4, 5] rfl h
set_option maxRecDepth 20000 in
set_option maxHeartbeats 4000000 in
theorem bl_X10_walks_3 {l : Launch} {D : gD} {d : Nat} {q : gMem → Prop} {Γ : gC} {r0 : Nat} {x1 : Int32} {x2 : Int32} {x4 : Int32} {x6 : Int32} {x7 : Int32} {μ : gMem} (hr0 : r0 < 1) (h : ∃ j_1 : Nat, j_1 < 115 ∧ x4 = nI j_1 ∧ (∃ j_2 : Nat, j_2 < 115 ∧ x4 = nI j_2 ∧ (∀ μ_3 : gMem, μ_3 = gsI μ 745 r0 j_2 ((μ.1 745 r0 j_1) + x6) → ∃ j_4 : Nat, j_4 < 115 ∧ x4 = nI j_4 ∧ (∃ j_5 : Nat, j_5 < 115 ∧ x4 = nI j_5 ∧ (∀ μ_6 : gMem, μ_6 = gsI μ_3 746 r0 j_5 ((μ_3.1 746 r0 j_4) + x7) → ∃ j_7 : Nat, j_7 < 115 ∧ x4 = nI j_7 ∧ (∀ x8_8 : Int32, x8_8 = μ_6.1 742 r0 j_7 → ∃ j_9 : Nat, j_9 < 115 ∧ x4 = nI j_9 ∧ (((x7 < (μ_6.1 740 r0 j_9)) → pt_X10_walks_4 l D d q Γ r0 x1 x2 x4 x7 x8_8 (0 : Int32) μ_6) ∧ ((¬ x7 < (μ_6.1 740 r0 j_9)) → pt_X10_walks_4 l D d q Γ r0 x1 x2 x4 x7 x8_8 (1 : Int32) μ_6)))))))) : pt_X10_walks_3 l D d q Γ r0 x1 x2 x4 x6 x7 μ := by
  unfold pt_X10_walks_3
  refine g_aload_n dX10_walks_166 rfl ?_
  refine g_gfR fl_10_90 rfl hr0 dX10_walks_167 ?_
  refine g_iload dX10_walks_170 rfl ?_
  refine g_dup2 dX10_walks_172 rfl rfl ?_
  obtain ⟨j_1, hj_1, ej_1, h⟩ := h
  refine g_iald j_1 hr0 rfl hj_1 (by decide) ej_1 dX10_walks_173 ?_
  refine g_iload dX10_walks_174 rfl ?_
  refine g_iadd dX10_walks_176 ?_
  obtain ⟨j_2, hj_2, ej_2, h⟩ := h
  refine g_iast j_2 hr0 rfl hj_2 (by decide) ej_2 dX10_walks_177 ?_
  obtain ⟨μ_3, eμ_3⟩ : ∃ z : gMem, z = gsI μ 745 r0 j_2 ((μ.1 745 r0 j_1) + x6) := ⟨_, rfl⟩
  have h := h μ_3 eμ_3
  refine g_mem eμ_3.symm ?_
  refine g_aload_n dX10_walks_178 rfl ?_
  refine g_gfR fl_10_93 rfl hr0 dX10_walks_179 ?_
  refine g_iload dX10_walks_182 rfl ?_
  refine g_dup2 dX10_walks_184 rfl rfl ?_
  obtain ⟨j_4, hj_4, ej_4, h⟩ := h
  refine g_iald j_4 hr0 rfl hj_4 (by decide) ej_4 dX10_walks_185 ?_
  refine g_iload dX10_walks_186 rfl ?_
  refine g_iadd dX10_walks_188 ?_
  obtain ⟨j_5, hj_5, ej_5, h⟩ := h
  refine g_iast j_5 hr0 rfl hj_5 (by decide) ej_5 dX10_walks_189 ?_
  obtain ⟨μ_6, eμ_6⟩ : ∃ z : gMem, z = gsI μ_3 746 r0 j_5 ((μ_3.1 746 r0 j_4) + x7) := ⟨_, rfl⟩
  have h := h μ_6 eμ_6
  refine g_mem eμ_6.symm ?_
  refine g_aload_n dX10_walks_190 rfl ?_
  refine g_gfR fl_10_81 rfl hr0 dX10_walks_191 ?_
  refine g_iload dX10_walks_194 rfl ?_
  obtain ⟨j_7, hj_7, ej_7, h⟩ := h
  refine g_iald j_7 hr0 rfl hj_7 (by decide) ej_7 dX10_walks_196 ?_
  refine g_istore dX10_walks_197 (by decide) (fun x8_8 ex8_8 => g_sub (lv' := [(0, .ref (D.2.2 10 r0)), (1, .int x1), (2, .int x2), (4, .int x4), (7, .int x7), (8, .int x8_8)]) [1, 2, 3, 4, 6, 0] rfl ?_)
  have h := h x8_8 ex8_8
  refine g_iload dX10_walks_199 rfl ?_
  refine g_aload_n dX10_walks_201 rfl ?_
  refine g_gfR fl_10_75 rfl hr0 dX10_walks_202 ?_
  refine g_iload dX10_walks_205 rfl ?_
  obtain ⟨j_9, hj_9, ej_9, h⟩ := h
  refine g_iald j_9 hr0 rfl hj_9 (by decide) ej_9 dX10_walks_207 ?_
  refine g_icmp_lt (tgt := 215) dX10_walks_208 (by decide) (fun c_10 => ?_) (fun c_10 => ?_)
  · have h := h.1 c_10
    refine g_iconst (0 : Int32) dX10_walks_215 rfl ?_
    exact g_sub [0, 1, 2, 3, 4, 5] rfl h
  · have h := h.2 c_10
    refine g_iconst (1 : Int32) dX10_walks_211 rfl ?_
    refine g_goto (tgt := 216) dX10_walks_212 (by decide) ?_
    exact g_sub [0, 1, 2, 3, 4, 5] rfl h
set_option maxRecDepth 20000 in
set_option maxHeartbeats 4000000 in
theorem bl_X10_walks_4 {l : Launch} {D : gD} {d : Nat} {q : gMem → Prop} {Γ : gC} {r0 : Nat} {x1 : Int32} {x2 : Int32} {x4 : Int32} {x7 : Int32} {x8 : Int32} {xs0 : Int32} {μ : gMem} (hr0 : r0 < 1) (h : ∀ x9_1 : Int32, x9_1 = xs0 → ((x9_1 = 0) → pt_X10_walks_5 l D d q Γ r0 x1 x2 x4 x7 x8 x9_1 r0 x4 (0 : Int32) μ) ∧ ((¬ x9_1 = 0) → pt_X10_walks_5 l D d q Γ r0 x1 x2 x4 x7 x8 x9_1 r0 x4 (x8 + (1 : Int32)) μ)) : pt_X10_walks_4 l D d q Γ r0 x1 x2 x4 x7 x8 xs0 μ := by
  unfold pt_X10_walks_4
  refine g_istore dX10_walks_216 (by decide) (fun x9_1 ex9_1 => g_sub (lv' := [(0, .ref (D.2.2 10 r0)), (1, .int x1), (2, .int x2), (4, .int x4), (7, .int x7), (8, .int x8), (9, .int x9_1)]) [1, 2, 3, 4, 5, 6, 0] rfl ?_)
  have h := h x9_1 ex9_1
  refine g_aload_n dX10_walks_218 rfl ?_
  refine g_gfR fl_10_81 rfl hr0 dX10_walks_219 ?_
  refine g_iload dX10_walks_222 rfl ?_
  refine g_iload dX10_walks_224 rfl ?_
  refine g_if_eq (tgt := 236) dX10_walks_226 (by decide) (fun c_2 => ?_) (fun c_2 => ?_)
  · have h := h.1 c_2
    refine g_iconst (0 : Int32) dX10_walks_236 rfl ?_
    exact g_sub [0, 1, 2, 3, 4, 5, 6] rfl h
  · have h := h.2 c_2
    refine g_iload dX10_walks_229 rfl ?_
    refine g_iconst (1 : Int32) dX10_walks_231 rfl ?_
    refine g_iadd dX10_walks_232 ?_
    refine g_goto (tgt := 237) dX10_walks_233 (by decide) ?_
    exact g_sub [0, 1, 2, 3, 4, 5, 6] rfl h
set_option maxRecDepth 20000 in
set_option maxHeartbeats 4000000 in
theorem bl_X10_walks_5 {l : Launch} {D : gD} {d : Nat} {q : gMem → Prop} {Γ : gC} {r0 : Nat} {x1 : Int32} {x2 : Int32} {x4 : Int32} {x7 : Int32} {x8 : Int32} {x9 : Int32} {rs0 : Nat} {xs1 : Int32} {xs2 : Int32} {μ : gMem} (hr0 : r0 < 1) (hrs0 : rs0 < 1) (h : ∃ j_1 : Nat, j_1 < 115 ∧ xs1 = nI j_1 ∧ (∀ μ_2 : gMem, μ_2 = gsI μ 742 rs0 j_1 xs2 → ((¬ x9 = 0) → pt_X10_walks_6 l D d q Γ r0 x1 x2 x4 x7 x8 x9 μ_2) ∧ ((x9 = 0) → ((x8 ≤ 0) → pt_X10_walks_6 l D d q Γ r0 x1 x2 x4 x7 x8 x9 μ_2) ∧ ((¬ x8 ≤ 0) → ∃ j_5 : Nat, j_5 < 115 ∧ x4 = nI j_5 ∧ (∃ j_6 : Nat, j_6 < 115 ∧ x4 = nI j_6 ∧ (∀ μ_7 : gMem, μ_7 = gsI μ_2 743 r0 j_6 ((μ_2.1 743 r0 j_5) + (1 : Int32)) → pt_X10_walks_6 l D d q Γ r0 x1 x2 x4 x7 x8 x9 μ_7)))))) : pt_X10_walks_5 l D d q Γ r0 x1 x2 x4 x7 x8 x9 rs0 xs1 xs2 μ := by
  unfold pt_X10_walks_5
  obtain ⟨j_1, hj_1, ej_1, h⟩ := h
  refine g_iast j_1 hrs0 rfl hj_1 (by decide) ej_1 dX10_walks_237 ?_
  obtain ⟨μ_2, eμ_2⟩ : ∃ z : gMem, z = gsI μ 742 rs0 j_1 xs2 := ⟨_, rfl⟩
  have h := h μ_2 eμ_2
  refine g_mem eμ_2.symm ?_
  refine g_iload dX10_walks_238 rfl ?_
  refine g_if_ne (tgt := 259) dX10_walks_240 (by decide) (fun c_3 => ?_) (fun c_3 => ?_)
  · have h := h.1 c_3
    exact g_sub [0, 1, 2, 3, 4, 5, 6] rfl h
  · have h := h.2 c_3
    refine g_iload dX10_walks_243 rfl ?_
    refine g_if_le (tgt := 259) dX10_walks_245 (by decide) (fun c_4 => ?_) (fun c_4 => ?_)
    · have h := h.1 c_4
      exact g_sub [0, 1, 2, 3, 4, 5, 6] rfl h
    · have h := h.2 c_4
      refine g_aload_n dX10_walks_248 rfl ?_
      refine g_gfR fl_10_84 rfl hr0 dX10_walks_249 ?_
      refine g_iload dX10_walks_252 rfl ?_
      refine g_dup2 dX10_walks_254 rfl rfl ?_
      obtain ⟨j_5, hj_5, ej_5, h⟩ := h
      refine g_iald j_5 hr0 rfl hj_5 (by decide) ej_5 dX10_walks_255 ?_
      refine g_iconst (1 : Int32) dX10_walks_256 rfl ?_
      refine g_iadd dX10_walks_257 ?_
      obtain ⟨j_6, hj_6, ej_6, h⟩ := h
      refine g_iast j_6 hr0 rfl hj_6 (by decide) ej_6 dX10_walks_258 ?_
      obtain ⟨μ_7, eμ_7⟩ : ∃ z : gMem, z = gsI μ_2 743 r0 j_6 ((μ_2.1 743 r0 j_5) + (1 : Int32)) := ⟨_, rfl⟩
      have h := h μ_7 eμ_7
      refine g_mem eμ_7.symm ?_
      exact g_sub [0, 1, 2, 3, 4, 5, 6] rfl h
set_option maxRecDepth 20000 in
set_option maxHeartbeats 4000000 in
theorem bl_X10_walks_6 {l : Launch} {D : gD} {d : Nat} {q : gMem → Prop} {Γ : gC} {r0 : Nat} {x1 : Int32} {x2 : Int32} {x4 : Int32} {x7 : Int32} {x8 : Int32} {x9 : Int32} {μ : gMem} (hr0 : r0 < 1) (h : ((x7 < (μ.1 707 r0 6)) → pt_X10_walks_7 l D d q Γ r0 x1 x2 x4 x7 x8 x9 μ) ∧ ((¬ x7 < (μ.1 707 r0 6)) → ∃ j_3 : Nat, j_3 < 115 ∧ x4 = nI j_3 ∧ (∃ j_5 : Nat, j_5 < 115 ∧ x4 = nI j_5 ∧ (∀ μ_6 : gMem, μ_6 = gsI μ 749 r0 j_5 ((μ.1 749 r0 j_3) + (μ.1 707 r0 5)) → pt_X10_walks_7 l D d q Γ r0 x1 x2 x4 x7 x8 x9 μ_6)))) : pt_X10_walks_6 l D d q Γ r0 x1 x2 x4 x7 x8 x9 μ := by
  unfold pt_X10_walks_6
  refine g_iload dX10_walks_259 rfl ?_
  refine g_aload_n dX10_walks_261 rfl ?_
  refine g_gfR fl_10_13 rfl hr0 dX10_walks_262 ?_
  refine g_bipush (6 : Int32) dX10_walks_265 rfl ?_
  refine g_iald 6 hr0 rfl (by decide) (by decide) rfl dX10_walks_267 ?_
  refine g_icmp_lt (tgt := 287) dX10_walks_268 (by decide) (fun c_2 => ?_) (fun c_2 => ?_)
  · have h := h.1 c_2
    exact g_sub [0, 1, 2, 3, 4, 5, 6] rfl h
  · have h := h.2 c_2
    refine g_aload_n dX10_walks_271 rfl ?_
    refine g_gfR fl_10_102 rfl hr0 dX10_walks_272 ?_
    refine g_iload dX10_walks_275 rfl ?_
    refine g_dup2 dX10_walks_277 rfl rfl ?_
    obtain ⟨j_3, hj_3, ej_3, h⟩ := h
    refine g_iald j_3 hr0 rfl hj_3 (by decide) ej_3 dX10_walks_278 ?_
    refine g_aload_n dX10_walks_279 rfl ?_
    refine g_gfR fl_10_13 rfl hr0 dX10_walks_280 ?_
    refine g_iconst (5 : Int32) dX10_walks_283 rfl ?_
    refine g_iald 5 hr0 rfl (by decide) (by decide) rfl dX10_walks_284 ?_
    refine g_iadd dX10_walks_285 ?_
    obtain ⟨j_5, hj_5, ej_5, h⟩ := h
    refine g_iast j_5 hr0 rfl hj_5 (by decide) ej_5 dX10_walks_286 ?_
    obtain ⟨μ_6, eμ_6⟩ : ∃ z : gMem, z = gsI μ 749 r0 j_5 ((μ.1 749 r0 j_3) + (μ.1 707 r0 5)) := ⟨_, rfl⟩
    have h := h μ_6 eμ_6
    refine g_mem eμ_6.symm ?_
    exact g_sub [0, 1, 2, 3, 4, 5, 6] rfl h
set_option maxRecDepth 20000 in
set_option maxHeartbeats 4000000 in
theorem bl_X10_walks_7 {l : Launch} {D : gD} {d : Nat} {q : gMem → Prop} {Γ : gC} {r0 : Nat} {x1 : Int32} {x2 : Int32} {x4 : Int32} {x7 : Int32} {x8 : Int32} {x9 : Int32} {μ : gMem} (hr0 : r0 < 1) (h : ∃ (d_1 : Nat) (q_2 : gMem → Prop), d_1 < d ∧ Ctr l D d_1 yX10_calls cX10_calls 5 none [.ref (D.2.2 10 r0), .int x1, .int x2, .int x7] μ (pV q_2) ∧ ∀ (μ_5 : gMem), q_2 μ_5 → ∃ j_8 : Nat, j_8 < 115 ∧ x4 = nI j_8 ∧ ((0 < d) ∧ (∃ (d_10 : Nat) (q_11 : Int32 → gMem → Prop), d_10 < d ∧ Ctr l D d_10 yX10_within cX10_within 4 (some .int) [.ref (D.2.2 10 r0), .int (2 : Int32), .int (999 : Int32), .int (imin (999 : Int32) x7)] μ_5 (pI q_11) ∧ ∀ (v_15 : Int32) (μ_14 : gMem), q_11 v_15 μ_14 → ∃ j_17 : Nat, j_17 < 115 ∧ x4 = nI j_17 ∧ (∀ μ_18 : gMem, μ_18 = gsI μ_14 744 r0 j_17 ((μ_5.1 744 r0 j_8) + v_15) → ∃ (d_19 : Nat) (q_20 : gMem → Prop), d_19 < d ∧ Ctr l D d_19 yX10_calls cX10_calls 5 none [.ref (D.2.2 10 r0), .int x1, .int x2, .int x7] μ_18 (pV q_20) ∧ ∀ (μ_23 : gMem), q_20 μ_23 → ∃ j_26 : Nat, j_26 < 115 ∧ x4 = nI j_26 ∧ (∀ x10_27 : Int32, x10_27 = μ_23.1 741 r0 j_26 → ((x9 = 0) → pt_X10_walks_8 l D d q Γ r0 x4 x8 x9 x10_27 μ_23) ∧ ((¬ x9 = 0) → ∃ j_29 : Nat, j_29 < 115 ∧ x4 = nI j_29 ∧ (((¬ ((μ_23.1 742 r0 j_29) - (μ_23.1 742 r0 j_29) / (7 : Int32) * (7 : Int32)) = 0) → pt_X10_walks_8 l D d q Γ r0 x4 x8 x9 x10_27 μ_23) ∧ ((((μ_23.1 742 r0 j_29) - (μ_23.1 742 r0 j_29) / (7 : Int32) * (7 : Int32)) = 0) → (0 < d) ∧ (∀ x10_32 : Int32, x10_32 = imin (99 : Int32) (x10_27 + (1 : Int32)) → pt_X10_walks_9 l D d q Γ r0 x4 x10_32 μ_23))))))))) : pt_X10_walks_7 l D d q Γ r0 x1 x2 x4 x7 x8 x9 μ := by
  unfold pt_X10_walks_7
  refine g_aload_n dX10_walks_287 rfl ?_
  refine g_iload_n dX10_walks_288 rfl ?_
  refine g_iload_n dX10_walks_289 rfl ?_
  refine g_iload dX10_walks_290 rfl ?_
  obtain ⟨d_1, q_2, hd_3, hc_4, h⟩ := h
  refine g_cV ca_X10_363 ob_10 hc_4 hd_3 (by decide) hr0 rfl rfl (by first | exact Nat.le_of_ble_eq_true rfl | decide) dX10_walks_292 (kV (fun μ_5 hq_7 => ?_))
  have h := h μ_5 hq_7
  refine g_aload_n dX10_walks_295 rfl ?_
  refine g_gfR fl_10_87 rfl hr0 dX10_walks_296 ?_
  refine g_iload dX10_walks_299 rfl ?_
  refine g_dup2 dX10_walks_301 rfl rfl ?_
  obtain ⟨j_8, hj_8, ej_8, h⟩ := h
  refine g_iald j_8 hr0 rfl hj_8 (by decide) ej_8 dX10_walks_302 ?_
  refine g_aload_n dX10_walks_303 rfl ?_
  refine g_iconst (2 : Int32) dX10_walks_304 rfl ?_
  refine g_sipush (999 : Int32) dX10_walks_305 rfl ?_
  refine g_sipush (999 : Int32) dX10_walks_308 rfl ?_
  refine g_iload dX10_walks_311 rfl ?_
  obtain ⟨hd_9, h⟩ := h
  refine g_mmin hd_9 mk_X10_371 (by first | exact Nat.le_of_ble_eq_true rfl | decide) dX10_walks_313 ?_
  obtain ⟨d_10, q_11, hd_12, hc_13, h⟩ := h
  refine g_cV ca_X10_367 ob_10 hc_13 hd_12 (by decide) hr0 rfl rfl (by first | exact Nat.le_of_ble_eq_true rfl | decide) dX10_walks_316 (kI (fun v_15 μ_14 hq_16 => ?_))
  have h := h v_15 μ_14 hq_16
  refine g_iadd dX10_walks_319 ?_
  obtain ⟨j_17, hj_17, ej_17, h⟩ := h
  refine g_iast j_17 hr0 rfl hj_17 (by decide) ej_17 dX10_walks_320 ?_
  obtain ⟨μ_18, eμ_18⟩ : ∃ z : gMem, z = gsI μ_14 744 r0 j_17 ((μ_5.1 744 r0 j_8) + v_15) := ⟨_, rfl⟩
  have h := h μ_18 eμ_18
  refine g_mem eμ_18.symm ?_
  refine g_aload_n dX10_walks_321 rfl ?_
  refine g_iload_n dX10_walks_322 rfl ?_
  refine g_iload_n dX10_walks_323 rfl ?_
  refine g_iload dX10_walks_324 rfl ?_
  obtain ⟨d_19, q_20, hd_21, hc_22, h⟩ := h
  refine g_cV ca_X10_363 ob_10 hc_22 hd_21 (by decide) hr0 rfl rfl (by first | exact Nat.le_of_ble_eq_true rfl | decide) dX10_walks_326 (kV (fun μ_23 hq_25 => ?_))
  have h := h μ_23 hq_25
  refine g_aload_n dX10_walks_329 rfl ?_
  refine g_gfR fl_10_78 rfl hr0 dX10_walks_330 ?_
  refine g_iload dX10_walks_333 rfl ?_
  obtain ⟨j_26, hj_26, ej_26, h⟩ := h
  refine g_iald j_26 hr0 rfl hj_26 (by decide) ej_26 dX10_walks_335 ?_
  refine g_istore dX10_walks_336 (by decide) (fun x10_27 ex10_27 => g_sub (lv' := [(0, .ref (D.2.2 10 r0)), (4, .int x4), (8, .int x8), (9, .int x9), (10, .int x10_27)]) [1, 4, 6, 7, 0] rfl ?_)
  have h := h x10_27 ex10_27
  refine g_iload dX10_walks_338 rfl ?_
  refine g_if_eq (tgt := 370) dX10_walks_340 (by decide) (fun c_28 => ?_) (fun c_28 => ?_)
  · have h := h.1 c_28
    exact g_sub [0, 1, 2, 3, 4] rfl h
  · have h := h.2 c_28
    refine g_aload_n dX10_walks_343 rfl ?_
    refine g_gfR fl_10_81 rfl hr0 dX10_walks_344 ?_
    refine g_iload dX10_walks_347 rfl ?_
    obtain ⟨j_29, hj_29, ej_29, h⟩ := h
    refine g_iald j_29 hr0 rfl hj_29 (by decide) ej_29 dX10_walks_349 ?_
    refine g_bipush (7 : Int32) dX10_walks_350 rfl ?_
    refine g_irem dX10_walks_352 (by decide) ?_
    refine g_if_ne (tgt := 370) dX10_walks_353 (by decide) (fun c_30 => ?_) (fun c_30 => ?_)
    · have h := h.1 c_30
      exact g_sub [0, 1, 2, 3, 4] rfl h
    · have h := h.2 c_30
      refine g_bipush (99 : Int32) dX10_walks_356 rfl ?_
      refine g_iload dX10_walks_358 rfl ?_
      refine g_iconst (1 : Int32) dX10_walks_360 rfl ?_
      refine g_iadd dX10_walks_361 ?_
      obtain ⟨hd_31, h⟩ := h
      refine g_mmin hd_31 mk_X10_371 (by first | exact Nat.le_of_ble_eq_true rfl | decide) dX10_walks_362 ?_
      refine g_istore dX10_walks_365 (by decide) (fun x10_32 ex10_32 => g_sub (lv' := [(0, .ref (D.2.2 10 r0)), (4, .int x4), (10, .int x10_32)]) [1, 2, 0] rfl ?_)
      have h := h x10_32 ex10_32
      refine g_goto (tgt := 391) dX10_walks_367 (by decide) ?_
      exact g_sub [0, 1, 2] rfl h
set_option maxRecDepth 20000 in
set_option maxHeartbeats 4000000 in
theorem bl_X10_walks_8 {l : Launch} {D : gD} {d : Nat} {q : gMem → Prop} {Γ : gC} {r0 : Nat} {x4 : Int32} {x8 : Int32} {x9 : Int32} {x10 : Int32} {μ : gMem} (hr0 : r0 < 1) (h : ((¬ x9 = 0) → pt_X10_walks_9 l D d q Γ r0 x4 x10 μ) ∧ ((x9 = 0) → ((x8 < (3 : Int32)) → pt_X10_walks_9 l D d q Γ r0 x4 x10 μ) ∧ ((¬ x8 < (3 : Int32)) → (0 < d) ∧ (∀ x10_4 : Int32, x10_4 = imax (0 : Int32) (x10 - (1 : Int32)) → pt_X10_walks_9 l D d q Γ r0 x4 x10_4 μ)))) : pt_X10_walks_8 l D d q Γ r0 x4 x8 x9 x10 μ := by
  unfold pt_X10_walks_8
  refine g_iload dX10_walks_370 rfl ?_
  refine g_if_ne (tgt := 391) dX10_walks_372 (by decide) (fun c_1 => ?_) (fun c_1 => ?_)
  · have h := h.1 c_1
    exact g_sub [0, 1, 4] rfl h
  · have h := h.2 c_1
    refine g_iload dX10_walks_375 rfl ?_
    refine g_iconst (3 : Int32) dX10_walks_377 rfl ?_
    refine g_icmp_lt (tgt := 391) dX10_walks_378 (by decide) (fun c_2 => ?_) (fun c_2 => ?_)
    · have h := h.1 c_2
      exact g_sub [0, 1, 4] rfl h
    · have h := h.2 c_2
      refine g_iconst (0 : Int32) dX10_walks_381 rfl ?_
      refine g_iload dX10_walks_382 rfl ?_
      refine g_iconst (1 : Int32) dX10_walks_384 rfl ?_
      refine g_isub dX10_walks_385 ?_
      obtain ⟨hd_3, h⟩ := h
      refine g_mmax hd_3 mk_X10_337 (by first | exact Nat.le_of_ble_eq_true rfl | decide) dX10_walks_386 ?_
      refine g_istore dX10_walks_389 (by decide) (fun x10_4 ex10_4 => g_sub (lv' := [(0, .ref (D.2.2 10 r0)), (4, .int x4), (10, .int x10_4)]) [1, 2, 0] rfl ?_)
      have h := h x10_4 ex10_4
      exact g_sub [0, 1, 2] rfl h
set_option maxRecDepth 20000 in
set_option maxHeartbeats 4000000 in
theorem bl_X10_walks_9 {l : Launch} {D : gD} {d : Nat} {q : gMem → Prop} {Γ : gC} {r0 : Nat} {x4 : Int32} {x10 : Int32} {μ : gMem} (hr0 : r0 < 1) (h : ∃ (d_1 : Nat) (q_2 : Int32 → gMem → Prop), d_1 < d ∧ Ctr l D d_1 yX10_within cX10_within 4 (some .int) [.ref (D.2.2 10 r0), .int (1 : Int32), .int (99 : Int32), .int x10] μ (pI q_2) ∧ ∀ (v_6 : Int32) (μ_5 : gMem), q_2 v_6 μ_5 → ∃ j_8 : Nat, j_8 < 115 ∧ x4 = nI j_8 ∧ (∀ μ_9 : gMem, μ_9 = gsI μ_5 741 r0 j_8 v_6 → ∃ j_10 : Nat, j_10 < 115 ∧ x4 = nI j_10 ∧ (∀ μ_11 : gMem, μ_11 = gsI μ_9 748 r0 j_10 (0 : Int32) → q μ_11))) : pt_X10_walks_9 l D d q Γ r0 x4 x10 μ := by
  unfold pt_X10_walks_9
  refine g_aload_n dX10_walks_391 rfl ?_
  refine g_gfR fl_10_78 rfl hr0 dX10_walks_392 ?_
  refine g_iload dX10_walks_395 rfl ?_
  refine g_aload_n dX10_walks_397 rfl ?_
  refine g_iconst (1 : Int32) dX10_walks_398 rfl ?_
  refine g_bipush (99 : Int32) dX10_walks_399 rfl ?_
  refine g_iload dX10_walks_401 rfl ?_
  obtain ⟨d_1, q_2, hd_3, hc_4, h⟩ := h
  refine g_cV ca_X10_367 ob_10 hc_4 hd_3 (by decide) hr0 rfl rfl (by first | exact Nat.le_of_ble_eq_true rfl | decide) dX10_walks_403 (kI (fun v_6 μ_5 hq_7 => ?_))
  have h := h v_6 μ_5 hq_7
  obtain ⟨j_8, hj_8, ej_8, h⟩ := h
  refine g_iast j_8 hr0 rfl hj_8 (by decide) ej_8 dX10_walks_406 ?_
  obtain ⟨μ_9, eμ_9⟩ : ∃ z : gMem, z = gsI μ_5 741 r0 j_8 v_6 := ⟨_, rfl⟩
  have h := h μ_9 eμ_9
  refine g_mem eμ_9.symm ?_
  refine g_aload_n dX10_walks_407 rfl ?_
  refine g_gfR fl_10_99 rfl hr0 dX10_walks_408 ?_
  refine g_iload dX10_walks_411 rfl ?_
  refine g_iconst (0 : Int32) dX10_walks_413 rfl ?_
  obtain ⟨j_10, hj_10, ej_10, h⟩ := h
  refine g_iast j_10 hr0 rfl hj_10 (by decide) ej_10 dX10_walks_414 ?_
  obtain ⟨μ_11, eμ_11⟩ : ∃ z : gMem, z = gsI μ_9 748 r0 j_10 (0 : Int32) := ⟨_, rfl⟩
  have h := h μ_11 eμ_11
  refine g_mem eμ_11.symm ?_
  exact g_vret dX10_walks_415 rfl ⟨rfl, h⟩
theorem en_X10_walks {l : Launch} {D : gD} {d : Nat} {q : gMem → Prop} {r0 : Nat} {x1 : Int32} {x2 : Int32} {x3 : Int32} {μ : gMem} (h : ∀ Γ : gC, pt_X10_walks_0 l D d q Γ r0 x1 x2 x3 μ) : Ctr l D d yX10_walks cX10_walks 11 none [.ref (D.2.2 10 r0), .int x1, .int x2, .int x3] μ (pV q) :=
  Ctr_of rfl (by decide) (Nat.le_of_ble_eq_true rfl) (fun Γ => g_sub [0, 1, 2, 3] rfl (h Γ))
def pt_X10_leader_0 (l : Launch) (D : gD) (d : Nat) (q : Int32 → gMem → Prop) (Γ : gC) (r0 : Nat) (x1 : Int32) (μ : gMem) : Prop := G l D RX10 cX10_leader 4 (some .int) d (pI q) Γ 0 [(0, .ref (D.2.2 10 r0)), (1, .int x1)] [] μ
def pt_X10_leader_1 (l : Launch) (D : gD) (d : Nat) (q : Int32 → gMem → Prop) (Γ : gC) (r0 : Nat) (x1 : Int32) (x2 : Int32) (x3 : Int32) (μ : gMem) : Prop := G l D RX10 cX10_leader 4 (some .int) d (pI q) Γ 4 [(0, .ref (D.2.2 10 r0)), (1, .int x1), (2, .int x2), (3, .int x3)] [] μ
def pt_X10_leader_2 (l : Launch) (D : gD) (d : Nat) (q : Int32 → gMem → Prop) (Γ : gC) (r0 : Nat) (x1 : Int32) (x3 : Int32) (μ : gMem) : Prop := G l D RX10 cX10_leader 4 (some .int) d (pI q) Γ 50 [(0, .ref (D.2.2 10 r0)), (1, .int x1), (3, .int x3)] [] μ
def pt_X10_leader_3 (l : Launch) (D : gD) (d : Nat) (q : Int32 → gMem → Prop) (Γ : gC) (r0 : Nat) (x1 : Int32) (x2 : Int32) (x3 : Int32) (μ : gMem) : Prop := G l D RX10 cX10_leader 4 (some .int) d (pI q) Γ 52 [(0, .ref (D.2.2 10 r0)), (1, .int x1), (2, .int x2), (3, .int x3)] [] μ
set_option maxRecDepth 20000 in
set_option maxHeartbeats 4000000 in
theorem bl_X10_leader_0 {l : Launch} {D : gD} {d : Nat} {q : Int32 → gMem → Prop} {Γ : gC} {r0 : Nat} {x1 : Int32} {μ : gMem} (hr0 : r0 < 1) (h : ∀ x2_1 : Int32, x2_1 = (-1 : Int32) → ∀ x3_2 : Int32, x3_2 = (0 : Int32) → pt_X10_leader_1 l D d q Γ r0 x1 x2_1 x3_2 μ) : pt_X10_leader_0 l D d q Γ r0 x1 μ := by
  unfold pt_X10_leader_0
  refine g_iconst (-1 : Int32) dX10_leader_0 rfl ?_
  refine g_istore_n dX10_leader_1 (by decide) (fun x2_1 ex2_1 => g_sub (lv' := [(0, .ref (D.2.2 10 r0)), (1, .int x1), (2, .int x2_1)]) [1, 2, 0] rfl ?_)
  have h := h x2_1 ex2_1
  refine g_iconst (0 : Int32) dX10_leader_2 rfl ?_
  refine g_istore_n dX10_leader_3 (by decide) (fun x3_2 ex3_2 => g_sub (lv' := [(0, .ref (D.2.2 10 r0)), (1, .int x1), (2, .int x2_1), (3, .int x3_2)]) [1, 2, 3, 0] rfl ?_)
  have h := h x3_2 ex3_2
  exact g_sub [0, 1, 2, 3] rfl h
set_option maxRecDepth 20000 in
set_option maxHeartbeats 4000000 in
theorem bl_X10_leader_1 {l : Launch} {D : gD} {d : Nat} {q : Int32 → gMem → Prop} {Γ : gC} {r0 : Nat} {x1 : Int32} {x2 : Int32} {x3 : Int32} {μ : gMem} (hr0 : r0 < 1) (h : (((μ.1 707 r0 0) ≤ x3) → q x2 μ) ∧ ((¬ (μ.1 707 r0 0) ≤ x3) → (0 < d) ∧ ((((bI (¬ (μ.1 10 r0 51 = (2 : Int32) ∧ x3 = μ.1 10 r0 52))) = 0) → pt_X10_leader_3 l D d q Γ r0 x1 x2 x3 μ) ∧ ((¬ (bI (¬ (μ.1 10 r0 51 = (2 : Int32) ∧ x3 = μ.1 10 r0 52))) = 0) → ((x2 = (-1 : Int32)) → pt_X10_leader_2 l D d q Γ r0 x1 x3 μ) ∧ ((¬ x2 = (-1 : Int32)) → ∃ j_9 : Nat, j_9 < 115 ∧ ((5 : Int32) * x1) + x3 = nI j_9 ∧ (∃ j_10 : Nat, j_10 < 115 ∧ ((5 : Int32) * x1) + x2 = nI j_10 ∧ ((((μ.1 744 r0 j_9) ≤ (μ.1 744 r0 j_10)) → pt_X10_leader_3 l D d q Γ r0 x1 x2 x3 μ) ∧ ((¬ (μ.1 744 r0 j_9) ≤ (μ.1 744 r0 j_10)) → pt_X10_leader_2 l D d q Γ r0 x1 x3 μ)))))))) : pt_X10_leader_1 l D d q Γ r0 x1 x2 x3 μ := by
  unfold pt_X10_leader_1
  refine g_iload_n dX10_leader_4 rfl ?_
  refine g_aload_n dX10_leader_5 rfl ?_
  refine g_gfR fl_10_13 rfl hr0 dX10_leader_6 ?_
  refine g_iconst (0 : Int32) dX10_leader_9 rfl ?_
  refine g_iald 0 hr0 rfl (by decide) (by decide) rfl dX10_leader_10 ?_
  refine g_icmp_ge (tgt := 58) dX10_leader_11 (by decide) (fun c_2 => ?_) (fun c_2 => ?_)
  · have h := h.1 c_2
    refine g_iload_n dX10_leader_58 rfl ?_
    exact g_iret dX10_leader_59 rfl rfl ⟨_, rfl, h⟩
  · have h := h.2 c_2
    refine g_aload_n dX10_leader_14 rfl ?_
    refine g_iload_n dX10_leader_15 rfl ?_
    obtain ⟨hd_3, h⟩ := h
    refine g_cV ca_X10_334 ob_10 (c_X10_isThere (d := 0) (Nat.le_refl _) hr0 ) hd_3 (by decide) hr0 rfl rfl (by first | exact Nat.le_of_ble_eq_true rfl | decide) dX10_leader_16 (kI (fun v_4 μ_5 hq_6 => ?_))
    obtain ⟨ev_4, eμ_5⟩ := hq_6
    subst ev_4
    refine g_mem eμ_5 ?_
    refine g_if_eq (tgt := 52) dX10_leader_19 (by decide) (fun c_7 => ?_) (fun c_7 => ?_)
    · have h := h.1 c_7
      exact g_sub [0, 1, 2, 3] rfl h
    · have h := h.2 c_7
      refine g_iload_n dX10_leader_22 rfl ?_
      refine g_iconst (-1 : Int32) dX10_leader_23 rfl ?_
      refine g_icmp_eq (tgt := 50) dX10_leader_24 (by decide) (fun c_8 => ?_) (fun c_8 => ?_)
      · have h := h.1 c_8
        exact g_sub [0, 1, 3] rfl h
      · have h := h.2 c_8
        refine g_aload_n dX10_leader_27 rfl ?_
        refine g_gfR fl_10_87 rfl hr0 dX10_leader_28 ?_
        refine g_iconst (5 : Int32) dX10_leader_31 rfl ?_
        refine g_iload_n dX10_leader_32 rfl ?_
        refine g_imul dX10_leader_33 ?_
        refine g_iload_n dX10_leader_34 rfl ?_
        refine g_iadd dX10_leader_35 ?_
        obtain ⟨j_9, hj_9, ej_9, h⟩ := h
        refine g_iald j_9 hr0 rfl hj_9 (by decide) ej_9 dX10_leader_36 ?_
        refine g_aload_n dX10_leader_37 rfl ?_
        refine g_gfR fl_10_87 rfl hr0 dX10_leader_38 ?_
        refine g_iconst (5 : Int32) dX10_leader_41 rfl ?_
        refine g_iload_n dX10_leader_42 rfl ?_
        refine g_imul dX10_leader_43 ?_
        refine g_iload_n dX10_leader_44 rfl ?_
        refine g_iadd dX10_leader_45 ?_
        obtain ⟨j_10, hj_10, ej_10, h⟩ := h
        refine g_iald j_10 hr0 rfl hj_10 (by decide) ej_10 dX10_leader_46 ?_
        refine g_icmp_le (tgt := 52) dX10_leader_47 (by decide) (fun c_11 => ?_) (fun c_11 => ?_)
        · have h := h.1 c_11
          exact g_sub [0, 1, 2, 3] rfl h
        · have h := h.2 c_11
          exact g_sub [0, 1, 3] rfl h
set_option maxRecDepth 20000 in
set_option maxHeartbeats 4000000 in
theorem bl_X10_leader_2 {l : Launch} {D : gD} {d : Nat} {q : Int32 → gMem → Prop} {Γ : gC} {r0 : Nat} {x1 : Int32} {x3 : Int32} {μ : gMem} (hr0 : r0 < 1) (h : ∀ x2_1 : Int32, x2_1 = x3 → pt_X10_leader_3 l D d q Γ r0 x1 x2_1 x3 μ) : pt_X10_leader_2 l D d q Γ r0 x1 x3 μ := by
  unfold pt_X10_leader_2
  refine g_iload_n dX10_leader_50 rfl ?_
  refine g_istore_n dX10_leader_51 (by decide) (fun x2_1 ex2_1 => g_sub (lv' := [(0, .ref (D.2.2 10 r0)), (1, .int x1), (2, .int x2_1), (3, .int x3)]) [1, 2, 0, 3] rfl ?_)
  have h := h x2_1 ex2_1
  exact g_sub [0, 1, 2, 3] rfl h
set_option maxRecDepth 20000 in
set_option maxHeartbeats 4000000 in
theorem bl_X10_leader_3 {l : Launch} {D : gD} {d : Nat} {q : Int32 → gMem → Prop} {Γ : gC} {r0 : Nat} {x1 : Int32} {x2 : Int32} {x3 : Int32} {μ : gMem} (hr0 : r0 < 1) (h : ∀ x3_1 : Int32, x3_1 = x3 + (1 : Int32) → pt_X10_leader_1 l D d q Γ r0 x1 x2 x3_1 μ) : pt_X10_leader_3 l D d q Γ r0 x1 x2 x3 μ := by
  unfold pt_X10_leader_3
  refine g_iinc dX10_leader_52 rfl (by decide) (fun x3_1 ex3_1 => g_sub (lv' := [(0, .ref (D.2.2 10 r0)), (1, .int x1), (2, .int x2), (3, .int x3_1)]) [1, 2, 3, 0] rfl ?_)
  have h := h x3_1 ex3_1
  refine g_goto (tgt := 4) dX10_leader_55 (by decide) ?_
  exact g_sub [0, 1, 2, 3] rfl h
theorem en_X10_leader {l : Launch} {D : gD} {d : Nat} {q : Int32 → gMem → Prop} {r0 : Nat} {x1 : Int32} {μ : gMem} (h : ∀ Γ : gC, pt_X10_leader_0 l D d q Γ r0 x1 μ) : Ctr l D d yX10_leader cX10_leader 4 (some .int) [.ref (D.2.2 10 r0), .int x1] μ (pI q) :=
  Ctr_of rfl (by decide) (Nat.le_of_ble_eq_true rfl) (fun Γ => g_sub [0, 1] rfl (h Γ))
def pt_X10_passes_0 (l : Launch) (D : gD) (d : Nat) (q : gMem → Prop) (Γ : gC) (r0 : Nat) (x1 : Int32) (x2 : Int32) (μ : gMem) : Prop := G l D RX10 cX10_passes 6 none d (pV q) Γ 0 [(0, .ref (D.2.2 10 r0)), (1, .int x1), (2, .int x2)] [] μ
def pt_X10_passes_1 (l : Launch) (D : gD) (d : Nat) (q : gMem → Prop) (Γ : gC) (r0 : Nat) (x1 : Int32) (x2 : Int32) (xs0 : Int32) (μ : gMem) : Prop := G l D RX10 cX10_passes 6 none d (pV q) Γ 19 [(0, .ref (D.2.2 10 r0)), (1, .int x1), (2, .int x2)] [.int xs0] μ
def pt_X10_passes_2 (l : Launch) (D : gD) (d : Nat) (q : gMem → Prop) (Γ : gC) (r0 : Nat) (x1 : Int32) (x2 : Int32) (x3 : Int32) (xs0 : Int32) (μ : gMem) : Prop := G l D RX10 cX10_passes 6 none d (pV q) Γ 31 [(0, .ref (D.2.2 10 r0)), (1, .int x1), (2, .int x2), (3, .int x3)] [.int xs0] μ
def pt_X10_passes_3 (l : Launch) (D : gD) (d : Nat) (q : gMem → Prop) (Γ : gC) (r0 : Nat) (x1 : Int32) (xs0 : Int32) (μ : gMem) : Prop := G l D RX10 cX10_passes 6 none d (pV q) Γ 86 [(0, .ref (D.2.2 10 r0)), (1, .int x1)] [.int xs0] μ
def pt_X10_passes_4 (l : Launch) (D : gD) (d : Nat) (q : gMem → Prop) (Γ : gC) (r0 : Nat) (x1 : Int32) (x4 : Int32) (μ : gMem) : Prop := G l D RX10 cX10_passes 6 none d (pV q) Γ 88 [(0, .ref (D.2.2 10 r0)), (1, .int x1), (4, .int x4)] [] μ
def pt_X10_passes_5 (l : Launch) (D : gD) (d : Nat) (q : gMem → Prop) (Γ : gC) (r0 : Nat) (x1 : Int32) (x4 : Int32) (rs0 : Nat) (xs1 : Int32) (xs2 : Int32) (xs3 : Int32) (μ : gMem) : Prop := G l D RX10 cX10_passes 6 none d (pV q) Γ 105 [(0, .ref (D.2.2 10 r0)), (1, .int x1), (4, .int x4)] [.int xs3, .int xs2, .int xs1, .ref (D.2.2 738 rs0)] μ
def pt_X10_passes_6 (l : Launch) (D : gD) (d : Nat) (q : gMem → Prop) (Γ : gC) (r0 : Nat) (x1 : Int32) (x4 : Int32) (x5 : Int32) (μ : gMem) : Prop := G l D RX10 cX10_passes 6 none d (pV q) Γ 110 [(0, .ref (D.2.2 10 r0)), (1, .int x1), (4, .int x4), (5, .int x5)] [] μ
def pt_X10_passes_7 (l : Launch) (D : gD) (d : Nat) (q : gMem → Prop) (Γ : gC) (r0 : Nat) (x1 : Int32) (x4 : Int32) (x5 : Int32) (μ : gMem) : Prop := G l D RX10 cX10_passes 6 none d (pV q) Γ 139 [(0, .ref (D.2.2 10 r0)), (1, .int x1), (4, .int x4), (5, .int x5)] [] μ
def pt_X10_passes_8 (l : Launch) (D : gD) (d : Nat) (q : gMem → Prop) (Γ : gC) (r0 : Nat) (x1 : Int32) (μ : gMem) : Prop := G l D RX10 cX10_passes 6 none d (pV q) Γ 216 [(0, .ref (D.2.2 10 r0)), (1, .int x1)] [] μ
def pt_X10_passes_9 (l : Launch) (D : gD) (d : Nat) (q : gMem → Prop) (Γ : gC) (r0 : Nat) (x1 : Int32) (x5 : Int32) (μ : gMem) : Prop := G l D RX10 cX10_passes 6 none d (pV q) Γ 219 [(0, .ref (D.2.2 10 r0)), (1, .int x1), (5, .int x5)] [] μ
set_option maxRecDepth 20000 in
set_option maxHeartbeats 4000000 in
theorem bl_X10_passes_0 {l : Launch} {D : gD} {d : Nat} {q : gMem → Prop} {Γ : gC} {r0 : Nat} {x1 : Int32} {x2 : Int32} {μ : gMem} (hr0 : r0 < 1) (h : ((¬ (μ.1 10 r0 51) = (1 : Int32)) → pt_X10_passes_1 l D d q Γ r0 x1 x2 (μ.1 707 r0 7) μ) ∧ (((μ.1 10 r0 51) = (1 : Int32)) → pt_X10_passes_1 l D d q Γ r0 x1 x2 (0 : Int32) μ)) : pt_X10_passes_0 l D d q Γ r0 x1 x2 μ := by
  unfold pt_X10_passes_0
  refine g_aload_n dX10_passes_0 rfl ?_
  refine g_gfI fi_10_331 hr0 dX10_passes_1 ?_
  refine g_iconst (1 : Int32) dX10_passes_4 rfl ?_
  refine g_icmp_ne (tgt := 12) dX10_passes_5 (by decide) (fun c_1 => ?_) (fun c_1 => ?_)
  · have h := h.1 c_1
    refine g_aload_n dX10_passes_12 rfl ?_
    refine g_gfR fl_10_13 rfl hr0 dX10_passes_13 ?_
    refine g_bipush (7 : Int32) dX10_passes_16 rfl ?_
    refine g_iald 7 hr0 rfl (by decide) (by decide) rfl dX10_passes_18 ?_
    exact g_sub [0, 1, 2] rfl h
  · have h := h.2 c_1
    refine g_iconst (0 : Int32) dX10_passes_8 rfl ?_
    refine g_goto (tgt := 19) dX10_passes_9 (by decide) ?_
    exact g_sub [0, 1, 2] rfl h
set_option maxRecDepth 20000 in
set_option maxHeartbeats 4000000 in
theorem bl_X10_passes_1 {l : Launch} {D : gD} {d : Nat} {q : gMem → Prop} {Γ : gC} {r0 : Nat} {x1 : Int32} {x2 : Int32} {xs0 : Int32} {μ : gMem} (hr0 : r0 < 1) (h : ∀ x3_1 : Int32, x3_1 = xs0 → ((x3_1 < (50 : Int32)) → pt_X10_passes_2 l D d q Γ r0 x1 x2 x3_1 (0 : Int32) μ) ∧ ((¬ x3_1 < (50 : Int32)) → pt_X10_passes_2 l D d q Γ r0 x1 x2 x3_1 (1 : Int32) μ)) : pt_X10_passes_1 l D d q Γ r0 x1 x2 xs0 μ := by
  unfold pt_X10_passes_1
  refine g_istore_n dX10_passes_19 (by decide) (fun x3_1 ex3_1 => g_sub (lv' := [(0, .ref (D.2.2 10 r0)), (1, .int x1), (2, .int x2), (3, .int x3_1)]) [1, 2, 3, 0] rfl ?_)
  have h := h x3_1 ex3_1
  refine g_iload_n dX10_passes_20 rfl ?_
  refine g_bipush (50 : Int32) dX10_passes_21 rfl ?_
  refine g_icmp_lt (tgt := 30) dX10_passes_23 (by decide) (fun c_2 => ?_) (fun c_2 => ?_)
  · have h := h.1 c_2
    refine g_iconst (0 : Int32) dX10_passes_30 rfl ?_
    exact g_sub [0, 1, 2, 3] rfl h
  · have h := h.2 c_2
    refine g_iconst (1 : Int32) dX10_passes_26 rfl ?_
    refine g_goto (tgt := 31) dX10_passes_27 (by decide) ?_
    exact g_sub [0, 1, 2, 3] rfl h
set_option maxRecDepth 20000 in
set_option maxHeartbeats 4000000 in
theorem bl_X10_passes_2 {l : Launch} {D : gD} {d : Nat} {q : gMem → Prop} {Γ : gC} {r0 : Nat} {x1 : Int32} {x2 : Int32} {x3 : Int32} {xs0 : Int32} {μ : gMem} (hr0 : r0 < 1) (h : ∀ x4_1 : Int32, x4_1 = xs0 → ((x2 = 0) → pt_X10_passes_4 l D d q Γ r0 x1 x4_1 μ) ∧ ((¬ x2 = 0) → ((x3 ≤ 0) → pt_X10_passes_4 l D d q Γ r0 x1 x4_1 μ) ∧ ((¬ x3 ≤ 0) → ∃ j_4 : Nat, j_4 < 23 ∧ x1 = nI j_4 ∧ (∃ j_5 : Nat, j_5 < 23 ∧ x1 = nI j_5 ∧ (∀ μ_6 : gMem, μ_6 = gsI μ 739 r0 j_5 ((((μ.1 739 r0 j_4) * (1103515245 : Int32)) + (12345 : Int32)) &&& (2147483647 : Int32)) → ∃ j_7 : Nat, j_7 < 23 ∧ x1 = nI j_7 ∧ (((x3 ≤ (((μ_6.1 739 r0 j_7) >>> ((16 : Int32) &&& 31)) - ((μ_6.1 739 r0 j_7) >>> ((16 : Int32) &&& 31)) / (100 : Int32) * (100 : Int32))) → pt_X10_passes_3 l D d q Γ r0 x1 (0 : Int32) μ_6) ∧ ((¬ x3 ≤ (((μ_6.1 739 r0 j_7) >>> ((16 : Int32) &&& 31)) - ((μ_6.1 739 r0 j_7) >>> ((16 : Int32) &&& 31)) / (100 : Int32) * (100 : Int32))) → pt_X10_passes_3 l D d q Γ r0 x1 (1 : Int32) μ_6))))))) : pt_X10_passes_2 l D d q Γ r0 x1 x2 x3 xs0 μ := by
  unfold pt_X10_passes_2
  refine g_istore dX10_passes_31 (by decide) (fun x4_1 ex4_1 => g_sub (lv' := [(0, .ref (D.2.2 10 r0)), (1, .int x1), (2, .int x2), (3, .int x3), (4, .int x4_1)]) [1, 2, 3, 4, 0] rfl ?_)
  have h := h x4_1 ex4_1
  refine g_iload_n dX10_passes_33 rfl ?_
  refine g_if_eq (tgt := 88) dX10_passes_34 (by decide) (fun c_2 => ?_) (fun c_2 => ?_)
  · have h := h.1 c_2
    exact g_sub [0, 1, 4] rfl h
  · have h := h.2 c_2
    refine g_iload_n dX10_passes_37 rfl ?_
    refine g_if_le (tgt := 88) dX10_passes_38 (by decide) (fun c_3 => ?_) (fun c_3 => ?_)
    · have h := h.1 c_3
      exact g_sub [0, 1, 4] rfl h
    · have h := h.2 c_3
      refine g_aload_n dX10_passes_41 rfl ?_
      refine g_gfR fl_10_72 rfl hr0 dX10_passes_42 ?_
      refine g_iload_n dX10_passes_45 rfl ?_
      refine g_aload_n dX10_passes_46 rfl ?_
      refine g_gfR fl_10_72 rfl hr0 dX10_passes_47 ?_
      refine g_iload_n dX10_passes_50 rfl ?_
      obtain ⟨j_4, hj_4, ej_4, h⟩ := h
      refine g_iald j_4 hr0 rfl hj_4 (by decide) ej_4 dX10_passes_51 ?_
      refine g_ldcw kc_X10_373 dX10_passes_52 ?_
      refine g_imul dX10_passes_55 ?_
      refine g_sipush (12345 : Int32) dX10_passes_56 rfl ?_
      refine g_iadd dX10_passes_59 ?_
      refine g_ldcw kc_X10_376 dX10_passes_60 ?_
      refine g_iand dX10_passes_63 ?_
      obtain ⟨j_5, hj_5, ej_5, h⟩ := h
      refine g_iast j_5 hr0 rfl hj_5 (by decide) ej_5 dX10_passes_64 ?_
      obtain ⟨μ_6, eμ_6⟩ : ∃ z : gMem, z = gsI μ 739 r0 j_5 ((((μ.1 739 r0 j_4) * (1103515245 : Int32)) + (12345 : Int32)) &&& (2147483647 : Int32)) := ⟨_, rfl⟩
      have h := h μ_6 eμ_6
      refine g_mem eμ_6.symm ?_
      refine g_aload_n dX10_passes_65 rfl ?_
      refine g_gfR fl_10_72 rfl hr0 dX10_passes_66 ?_
      refine g_iload_n dX10_passes_69 rfl ?_
      obtain ⟨j_7, hj_7, ej_7, h⟩ := h
      refine g_iald j_7 hr0 rfl hj_7 (by decide) ej_7 dX10_passes_70 ?_
      refine g_bipush (16 : Int32) dX10_passes_71 rfl ?_
      refine g_ishr dX10_passes_73 ?_
      refine g_bipush (100 : Int32) dX10_passes_74 rfl ?_
      refine g_irem dX10_passes_76 (by decide) ?_
      refine g_iload_n dX10_passes_77 rfl ?_
      refine g_icmp_ge (tgt := 85) dX10_passes_78 (by decide) (fun c_8 => ?_) (fun c_8 => ?_)
      · have h := h.1 c_8
        refine g_iconst (0 : Int32) dX10_passes_85 rfl ?_
        exact g_sub [0, 1] rfl h
      · have h := h.2 c_8
        refine g_iconst (1 : Int32) dX10_passes_81 rfl ?_
        refine g_goto (tgt := 86) dX10_passes_82 (by decide) ?_
        exact g_sub [0, 1] rfl h
set_option maxRecDepth 20000 in
set_option maxHeartbeats 4000000 in
theorem bl_X10_passes_3 {l : Launch} {D : gD} {d : Nat} {q : gMem → Prop} {Γ : gC} {r0 : Nat} {x1 : Int32} {xs0 : Int32} {μ : gMem} (hr0 : r0 < 1) (h : ∀ x4_1 : Int32, x4_1 = xs0 → pt_X10_passes_4 l D d q Γ r0 x1 x4_1 μ) : pt_X10_passes_3 l D d q Γ r0 x1 xs0 μ := by
  unfold pt_X10_passes_3
  refine g_istore dX10_passes_86 (by decide) (fun x4_1 ex4_1 => g_sub (lv' := [(0, .ref (D.2.2 10 r0)), (1, .int x1), (4, .int x4_1)]) [1, 2, 0] rfl ?_)
  have h := h x4_1 ex4_1
  exact g_sub [0, 1, 2] rfl h
set_option maxRecDepth 20000 in
set_option maxHeartbeats 4000000 in
theorem bl_X10_passes_4 {l : Launch} {D : gD} {d : Nat} {q : gMem → Prop} {Γ : gC} {r0 : Nat} {x1 : Int32} {x4 : Int32} {μ : gMem} (hr0 : r0 < 1) (h : ∃ j_1 : Nat, j_1 < 23 ∧ x1 = nI j_1 ∧ (((x4 = 0) → pt_X10_passes_5 l D d q Γ r0 x1 x4 r0 x1 (μ.1 738 r0 j_1) (0 : Int32) μ) ∧ ((¬ x4 = 0) → pt_X10_passes_5 l D d q Γ r0 x1 x4 r0 x1 (μ.1 738 r0 j_1) (1 : Int32) μ))) : pt_X10_passes_4 l D d q Γ r0 x1 x4 μ := by
  unfold pt_X10_passes_4
  refine g_aload_n dX10_passes_88 rfl ?_
  refine g_gfR fl_10_69 rfl hr0 dX10_passes_89 ?_
  refine g_iload_n dX10_passes_92 rfl ?_
  refine g_dup2 dX10_passes_93 rfl rfl ?_
  obtain ⟨j_1, hj_1, ej_1, h⟩ := h
  refine g_iald j_1 hr0 rfl hj_1 (by decide) ej_1 dX10_passes_94 ?_
  refine g_iload dX10_passes_95 rfl ?_
  refine g_if_eq (tgt := 104) dX10_passes_97 (by decide) (fun c_2 => ?_) (fun c_2 => ?_)
  · have h := h.1 c_2
    refine g_iconst (0 : Int32) dX10_passes_104 rfl ?_
    exact g_sub [0, 1, 2] rfl h
  · have h := h.2 c_2
    refine g_iconst (1 : Int32) dX10_passes_100 rfl ?_
    refine g_goto (tgt := 105) dX10_passes_101 (by decide) ?_
    exact g_sub [0, 1, 2] rfl h
set_option maxRecDepth 20000 in
set_option maxHeartbeats 4000000 in
theorem bl_X10_passes_5 {l : Launch} {D : gD} {d : Nat} {q : gMem → Prop} {Γ : gC} {r0 : Nat} {x1 : Int32} {x4 : Int32} {rs0 : Nat} {xs1 : Int32} {xs2 : Int32} {xs3 : Int32} {μ : gMem} (hr0 : r0 < 1) (hrs0 : rs0 < 1) (h : ∃ j_1 : Nat, j_1 < 23 ∧ xs1 = nI j_1 ∧ (∀ μ_2 : gMem, μ_2 = gsI μ 738 rs0 j_1 (xs2 + xs3) → ∀ x5_3 : Int32, x5_3 = (0 : Int32) → pt_X10_passes_6 l D d q Γ r0 x1 x4 x5_3 μ_2)) : pt_X10_passes_5 l D d q Γ r0 x1 x4 rs0 xs1 xs2 xs3 μ := by
  unfold pt_X10_passes_5
  refine g_iadd dX10_passes_105 ?_
  obtain ⟨j_1, hj_1, ej_1, h⟩ := h
  refine g_iast j_1 hrs0 rfl hj_1 (by decide) ej_1 dX10_passes_106 ?_
  obtain ⟨μ_2, eμ_2⟩ : ∃ z : gMem, z = gsI μ 738 rs0 j_1 (xs2 + xs3) := ⟨_, rfl⟩
  have h := h μ_2 eμ_2
  refine g_mem eμ_2.symm ?_
  refine g_iconst (0 : Int32) dX10_passes_107 rfl ?_
  refine g_istore dX10_passes_108 (by decide) (fun x5_3 ex5_3 => g_sub (lv' := [(0, .ref (D.2.2 10 r0)), (1, .int x1), (4, .int x4), (5, .int x5_3)]) [1, 2, 3, 0] rfl ?_)
  have h := h x5_3 ex5_3
  exact g_sub [0, 1, 2, 3] rfl h
set_option maxRecDepth 20000 in
set_option maxHeartbeats 4000000 in
theorem bl_X10_passes_6 {l : Launch} {D : gD} {d : Nat} {q : gMem → Prop} {Γ : gC} {r0 : Nat} {x1 : Int32} {x4 : Int32} {x5 : Int32} {μ : gMem} (hr0 : r0 < 1) (h : (((μ.1 707 r0 0) ≤ x5) → ∀ μ_3 : gMem, μ_3 = gsI μ 10 r0 48 (-1 : Int32) → ∃ j_4 : Nat, j_4 < 23 ∧ x1 = nI j_4 ∧ (∃ j_5 : Nat, j_5 < 23 ∧ x1 = nI j_5 ∧ (∀ μ_6 : gMem, μ_6 = gsI μ_3 737 r0 j_5 ((μ_3.1 737 r0 j_4) + (1 : Int32)) → ∃ j_7 : Nat, j_7 < 23 ∧ x1 = nI j_7 ∧ ((¬ μ_6.1 707 r0 4 = 0) ∧ (((((μ_6.1 737 r0 j_7) - (μ_6.1 737 r0 j_7) / (μ_6.1 707 r0 4) * (μ_6.1 707 r0 4)) = 0) → ∃ (d_11 : Nat) (q_12 : Int32 → gMem → Prop), d_11 < d ∧ Ctr l D d_11 yX10_leader cX10_leader 4 (some .int) [.ref (D.2.2 10 r0), .int x1] μ_6 (pI q_12) ∧ ∀ (v_16 : Int32) (μ_15 : gMem), q_12 v_16 μ_15 → ∀ μ_18 : gMem, μ_18 = gsI μ_15 10 r0 48 v_16 → (((μ_18.1 10 r0 48) = (-1 : Int32)) → pt_X10_passes_8 l D d q Γ r0 x1 μ_18) ∧ ((¬ (μ_18.1 10 r0 48) = (-1 : Int32)) → ∃ j_20 : Nat, j_20 < 115 ∧ ((5 : Int32) * x1) + (μ_18.1 10 r0 48) = nI j_20 ∧ (∃ j_22 : Nat, j_22 < 115 ∧ ((5 : Int32) * x1) + (μ_18.1 10 r0 48) = nI j_22 ∧ (∀ μ_23 : gMem, μ_23 = gsI μ_18 750 r0 j_22 ((μ_18.1 750 r0 j_20) + (μ_18.1 707 r0 3)) → pt_X10_passes_8 l D d q Γ r0 x1 μ_23)))) ∧ ((¬ ((μ_6.1 737 r0 j_7) - (μ_6.1 737 r0 j_7) / (μ_6.1 707 r0 4) * (μ_6.1 707 r0 4)) = 0) → q μ_6)))))) ∧ ((¬ (μ.1 707 r0 0) ≤ x5) → (0 < d) ∧ ((((bI (¬ (μ.1 10 r0 51 = (2 : Int32) ∧ x5 = μ.1 10 r0 52))) = 0) → pt_X10_passes_7 l D d q Γ r0 x1 x4 x5 μ) ∧ ((¬ (bI (¬ (μ.1 10 r0 51 = (2 : Int32) ∧ x5 = μ.1 10 r0 52))) = 0) → ∃ (d_29 : Nat) (q_30 : gMem → Prop), d_29 < d ∧ Ctr l D d_29 yX10_walks cX10_walks 11 none [.ref (D.2.2 10 r0), .int x1, .int x5, .int x4] μ (pV q_30) ∧ ∀ (μ_33 : gMem), q_30 μ_33 → pt_X10_passes_7 l D d q Γ r0 x1 x4 x5 μ_33)))) : pt_X10_passes_6 l D d q Γ r0 x1 x4 x5 μ := by
  unfold pt_X10_passes_6
  refine g_iload dX10_passes_110 rfl ?_
  refine g_aload_n dX10_passes_112 rfl ?_
  refine g_gfR fl_10_13 rfl hr0 dX10_passes_113 ?_
  refine g_iconst (0 : Int32) dX10_passes_116 rfl ?_
  refine g_iald 0 hr0 rfl (by decide) (by decide) rfl dX10_passes_117 ?_
  refine g_icmp_ge (tgt := 145) dX10_passes_118 (by decide) (fun c_2 => ?_) (fun c_2 => ?_)
  · have h := h.1 c_2
    refine g_aload_n dX10_passes_145 rfl ?_
    refine g_iconst (-1 : Int32) dX10_passes_146 rfl ?_
    refine g_pfI fi_10_381 hr0 rfl rfl dX10_passes_147 ?_
    obtain ⟨μ_3, eμ_3⟩ : ∃ z : gMem, z = gsI μ 10 r0 48 (-1 : Int32) := ⟨_, rfl⟩
    have h := h μ_3 eμ_3
    refine g_mem eμ_3.symm ?_
    refine g_aload_n dX10_passes_150 rfl ?_
    refine g_gfR fl_10_66 rfl hr0 dX10_passes_151 ?_
    refine g_iload_n dX10_passes_154 rfl ?_
    refine g_dup2 dX10_passes_155 rfl rfl ?_
    obtain ⟨j_4, hj_4, ej_4, h⟩ := h
    refine g_iald j_4 hr0 rfl hj_4 (by decide) ej_4 dX10_passes_156 ?_
    refine g_iconst (1 : Int32) dX10_passes_157 rfl ?_
    refine g_iadd dX10_passes_158 ?_
    obtain ⟨j_5, hj_5, ej_5, h⟩ := h
    refine g_iast j_5 hr0 rfl hj_5 (by decide) ej_5 dX10_passes_159 ?_
    obtain ⟨μ_6, eμ_6⟩ : ∃ z : gMem, z = gsI μ_3 737 r0 j_5 ((μ_3.1 737 r0 j_4) + (1 : Int32)) := ⟨_, rfl⟩
    have h := h μ_6 eμ_6
    refine g_mem eμ_6.symm ?_
    refine g_aload_n dX10_passes_160 rfl ?_
    refine g_gfR fl_10_66 rfl hr0 dX10_passes_161 ?_
    refine g_iload_n dX10_passes_164 rfl ?_
    obtain ⟨j_7, hj_7, ej_7, h⟩ := h
    refine g_iald j_7 hr0 rfl hj_7 (by decide) ej_7 dX10_passes_165 ?_
    refine g_aload_n dX10_passes_166 rfl ?_
    refine g_gfR fl_10_13 rfl hr0 dX10_passes_167 ?_
    refine g_iconst (4 : Int32) dX10_passes_170 rfl ?_
    refine g_iald 4 hr0 rfl (by decide) (by decide) rfl dX10_passes_171 ?_
    obtain ⟨nz_9, h⟩ := h
    refine g_irem dX10_passes_172 nz_9 ?_
    refine g_if_eq (tgt := 177) dX10_passes_173 (by decide) (fun c_10 => ?_) (fun c_10 => ?_)
    · have h := h.1 c_10
      refine g_aload_n dX10_passes_177 rfl ?_
      refine g_aload_n dX10_passes_178 rfl ?_
      refine g_iload_n dX10_passes_179 rfl ?_
      obtain ⟨d_11, q_12, hd_13, hc_14, h⟩ := h
      refine g_cV ca_X10_384 ob_10 hc_14 hd_13 (by decide) hr0 rfl rfl (by first | exact Nat.le_of_ble_eq_true rfl | decide) dX10_passes_180 (kI (fun v_16 μ_15 hq_17 => ?_))
      have h := h v_16 μ_15 hq_17
      refine g_pfI fi_10_381 hr0 rfl rfl dX10_passes_183 ?_
      obtain ⟨μ_18, eμ_18⟩ : ∃ z : gMem, z = gsI μ_15 10 r0 48 v_16 := ⟨_, rfl⟩
      have h := h μ_18 eμ_18
      refine g_mem eμ_18.symm ?_
      refine g_aload_n dX10_passes_186 rfl ?_
      refine g_gfI fi_10_381 hr0 dX10_passes_187 ?_
      refine g_iconst (-1 : Int32) dX10_passes_190 rfl ?_
      refine g_icmp_eq (tgt := 216) dX10_passes_191 (by decide) (fun c_19 => ?_) (fun c_19 => ?_)
      · have h := h.1 c_19
        exact g_sub [0, 1] rfl h
      · have h := h.2 c_19
        refine g_aload_n dX10_passes_194 rfl ?_
        refine g_gfR fl_10_105 rfl hr0 dX10_passes_195 ?_
        refine g_iconst (5 : Int32) dX10_passes_198 rfl ?_
        refine g_iload_n dX10_passes_199 rfl ?_
        refine g_imul dX10_passes_200 ?_
        refine g_aload_n dX10_passes_201 rfl ?_
        refine g_gfI fi_10_381 hr0 dX10_passes_202 ?_
        refine g_iadd dX10_passes_205 ?_
        refine g_dup2 dX10_passes_206 rfl rfl ?_
        obtain ⟨j_20, hj_20, ej_20, h⟩ := h
        refine g_iald j_20 hr0 rfl hj_20 (by decide) ej_20 dX10_passes_207 ?_
        refine g_aload_n dX10_passes_208 rfl ?_
        refine g_gfR fl_10_13 rfl hr0 dX10_passes_209 ?_
        refine g_iconst (3 : Int32) dX10_passes_212 rfl ?_
        refine g_iald 3 hr0 rfl (by decide) (by decide) rfl dX10_passes_213 ?_
        refine g_iadd dX10_passes_214 ?_
        obtain ⟨j_22, hj_22, ej_22, h⟩ := h
        refine g_iast j_22 hr0 rfl hj_22 (by decide) ej_22 dX10_passes_215 ?_
        obtain ⟨μ_23, eμ_23⟩ : ∃ z : gMem, z = gsI μ_18 750 r0 j_22 ((μ_18.1 750 r0 j_20) + (μ_18.1 707 r0 3)) := ⟨_, rfl⟩
        have h := h μ_23 eμ_23
        refine g_mem eμ_23.symm ?_
        exact g_sub [0, 1] rfl h
    · have h := h.2 c_10
      exact g_vret dX10_passes_176 rfl ⟨rfl, h⟩
  · have h := h.2 c_2
    refine g_aload_n dX10_passes_121 rfl ?_
    refine g_iload dX10_passes_122 rfl ?_
    obtain ⟨hd_24, h⟩ := h
    refine g_cV ca_X10_334 ob_10 (c_X10_isThere (d := 0) (Nat.le_refl _) hr0 ) hd_24 (by decide) hr0 rfl rfl (by first | exact Nat.le_of_ble_eq_true rfl | decide) dX10_passes_124 (kI (fun v_25 μ_26 hq_27 => ?_))
    obtain ⟨ev_25, eμ_26⟩ := hq_27
    subst ev_25
    refine g_mem eμ_26 ?_
    refine g_if_eq (tgt := 139) dX10_passes_127 (by decide) (fun c_28 => ?_) (fun c_28 => ?_)
    · have h := h.1 c_28
      exact g_sub [0, 1, 2, 3] rfl h
    · have h := h.2 c_28
      refine g_aload_n dX10_passes_130 rfl ?_
      refine g_iload_n dX10_passes_131 rfl ?_
      refine g_iload dX10_passes_132 rfl ?_
      refine g_iload dX10_passes_134 rfl ?_
      obtain ⟨d_29, q_30, hd_31, hc_32, h⟩ := h
      refine g_cV ca_X10_377 ob_10 hc_32 hd_31 (by decide) hr0 rfl rfl (by first | exact Nat.le_of_ble_eq_true rfl | decide) dX10_passes_136 (kV (fun μ_33 hq_35 => ?_))
      have h := h μ_33 hq_35
      exact g_sub [0, 1, 2, 3] rfl h
set_option maxRecDepth 20000 in
set_option maxHeartbeats 4000000 in
theorem bl_X10_passes_7 {l : Launch} {D : gD} {d : Nat} {q : gMem → Prop} {Γ : gC} {r0 : Nat} {x1 : Int32} {x4 : Int32} {x5 : Int32} {μ : gMem} (hr0 : r0 < 1) (h : ∀ x5_1 : Int32, x5_1 = x5 + (1 : Int32) → pt_X10_passes_6 l D d q Γ r0 x1 x4 x5_1 μ) : pt_X10_passes_7 l D d q Γ r0 x1 x4 x5 μ := by
  unfold pt_X10_passes_7
  refine g_iinc dX10_passes_139 rfl (by decide) (fun x5_1 ex5_1 => g_sub (lv' := [(0, .ref (D.2.2 10 r0)), (1, .int x1), (4, .int x4), (5, .int x5_1)]) [1, 2, 3, 0] rfl ?_)
  have h := h x5_1 ex5_1
  refine g_goto (tgt := 110) dX10_passes_142 (by decide) ?_
  exact g_sub [0, 1, 2, 3] rfl h
set_option maxRecDepth 20000 in
set_option maxHeartbeats 4000000 in
theorem bl_X10_passes_8 {l : Launch} {D : gD} {d : Nat} {q : gMem → Prop} {Γ : gC} {r0 : Nat} {x1 : Int32} {μ : gMem} (hr0 : r0 < 1) (h : ∀ x5_1 : Int32, x5_1 = (0 : Int32) → pt_X10_passes_9 l D d q Γ r0 x1 x5_1 μ) : pt_X10_passes_8 l D d q Γ r0 x1 μ := by
  unfold pt_X10_passes_8
  refine g_iconst (0 : Int32) dX10_passes_216 rfl ?_
  refine g_istore dX10_passes_217 (by decide) (fun x5_1 ex5_1 => g_sub (lv' := [(0, .ref (D.2.2 10 r0)), (1, .int x1), (5, .int x5_1)]) [1, 2, 0] rfl ?_)
  have h := h x5_1 ex5_1
  exact g_sub [0, 1, 2] rfl h
set_option maxRecDepth 20000 in
set_option maxHeartbeats 4000000 in
theorem bl_X10_passes_9 {l : Launch} {D : gD} {d : Nat} {q : gMem → Prop} {Γ : gC} {r0 : Nat} {x1 : Int32} {x5 : Int32} {μ : gMem} (hr0 : r0 < 1) (h : (((5 : Int32) ≤ x5) → q μ) ∧ ((¬ (5 : Int32) ≤ x5) → ∃ j_2 : Nat, j_2 < 115 ∧ ((5 : Int32) * x1) + x5 = nI j_2 ∧ (∀ μ_3 : gMem, μ_3 = gsI μ 744 r0 j_2 (0 : Int32) → ∀ x5_4 : Int32, x5_4 = x5 + (1 : Int32) → pt_X10_passes_9 l D d q Γ r0 x1 x5_4 μ_3))) : pt_X10_passes_9 l D d q Γ r0 x1 x5 μ := by
  unfold pt_X10_passes_9
  refine g_iload dX10_passes_219 rfl ?_
  refine g_iconst (5 : Int32) dX10_passes_221 rfl ?_
  refine g_icmp_ge (tgt := 243) dX10_passes_222 (by decide) (fun c_1 => ?_) (fun c_1 => ?_)
  · have h := h.1 c_1
    exact g_vret dX10_passes_243 rfl ⟨rfl, h⟩
  · have h := h.2 c_1
    refine g_aload_n dX10_passes_225 rfl ?_
    refine g_gfR fl_10_87 rfl hr0 dX10_passes_226 ?_
    refine g_iconst (5 : Int32) dX10_passes_229 rfl ?_
    refine g_iload_n dX10_passes_230 rfl ?_
    refine g_imul dX10_passes_231 ?_
    refine g_iload dX10_passes_232 rfl ?_
    refine g_iadd dX10_passes_234 ?_
    refine g_iconst (0 : Int32) dX10_passes_235 rfl ?_
    obtain ⟨j_2, hj_2, ej_2, h⟩ := h
    refine g_iast j_2 hr0 rfl hj_2 (by decide) ej_2 dX10_passes_236 ?_
    obtain ⟨μ_3, eμ_3⟩ : ∃ z : gMem, z = gsI μ 744 r0 j_2 (0 : Int32) := ⟨_, rfl⟩
    have h := h μ_3 eμ_3
    refine g_mem eμ_3.symm ?_
    refine g_iinc dX10_passes_237 rfl (by decide) (fun x5_4 ex5_4 => g_sub (lv' := [(0, .ref (D.2.2 10 r0)), (1, .int x1), (5, .int x5_4)]) [1, 2, 0] rfl ?_)
    have h := h x5_4 ex5_4
    refine g_goto (tgt := 219) dX10_passes_240 (by decide) ?_
    exact g_sub [0, 1, 2] rfl h
theorem en_X10_passes {l : Launch} {D : gD} {d : Nat} {q : gMem → Prop} {r0 : Nat} {x1 : Int32} {x2 : Int32} {μ : gMem} (h : ∀ Γ : gC, pt_X10_passes_0 l D d q Γ r0 x1 x2 μ) : Ctr l D d yX10_passes cX10_passes 6 none [.ref (D.2.2 10 r0), .int x1, .int x2] μ (pV q) :=
  Ctr_of rfl (by decide) (Nat.le_of_ble_eq_true rfl) (fun Γ => g_sub [0, 1, 2] rfl (h Γ))
def pt_X10_runs_0 (l : Launch) (D : gD) (d : Nat) (q : gMem → Prop) (Γ : gC) (r0 : Nat) (x1 : Int32) (μ : gMem) : Prop := G l D RX10 cX10_runs 3 none d (pV q) Γ 0 [(0, .ref (D.2.2 10 r0)), (1, .int x1)] [] μ
def pt_X10_runs_1 (l : Launch) (D : gD) (d : Nat) (q : gMem → Prop) (Γ : gC) (r0 : Nat) (x1 : Int32) (x2 : Int32) (μ : gMem) : Prop := G l D RX10 cX10_runs 3 none d (pV q) Γ 8 [(0, .ref (D.2.2 10 r0)), (1, .int x1), (2, .int x2)] [] μ
set_option maxRecDepth 20000 in
set_option maxHeartbeats 4000000 in
theorem bl_X10_runs_0 {l : Launch} {D : gD} {d : Nat} {q : gMem → Prop} {Γ : gC} {r0 : Nat} {x1 : Int32} {μ : gMem} (hr0 : r0 < 1) (h : ∃ (d_1 : Nat) (q_2 : gMem → Prop), d_1 < d ∧ Ctr l D d_1 yX10_copies cX10_copies 6 none [.ref (D.2.2 10 r0), .int (1 : Int32), .int (0 : Int32)] μ (pV q_2) ∧ ∀ (μ_5 : gMem), q_2 μ_5 → ∀ x2_8 : Int32, x2_8 = (0 : Int32) → pt_X10_runs_1 l D d q Γ r0 x1 x2_8 μ_5) : pt_X10_runs_0 l D d q Γ r0 x1 μ := by
  unfold pt_X10_runs_0
  refine g_aload_n dX10_runs_0 rfl ?_
  refine g_iconst (1 : Int32) dX10_runs_1 rfl ?_
  refine g_iconst (0 : Int32) dX10_runs_2 rfl ?_
  obtain ⟨d_1, q_2, hd_3, hc_4, h⟩ := h
  refine g_cV ca_X10_387 ob_10 hc_4 hd_3 (by decide) hr0 rfl rfl (by first | exact Nat.le_of_ble_eq_true rfl | decide) dX10_runs_3 (kV (fun μ_5 hq_7 => ?_))
  have h := h μ_5 hq_7
  refine g_iconst (0 : Int32) dX10_runs_6 rfl ?_
  refine g_istore_n dX10_runs_7 (by decide) (fun x2_8 ex2_8 => g_sub (lv' := [(0, .ref (D.2.2 10 r0)), (1, .int x1), (2, .int x2_8)]) [1, 2, 0] rfl ?_)
  have h := h x2_8 ex2_8
  exact g_sub [0, 1, 2] rfl h
set_option maxRecDepth 20000 in
set_option maxHeartbeats 4000000 in
theorem bl_X10_runs_1 {l : Launch} {D : gD} {d : Nat} {q : gMem → Prop} {Γ : gC} {r0 : Nat} {x1 : Int32} {x2 : Int32} {μ : gMem} (hr0 : r0 < 1) (h : ((x1 ≤ x2) → q μ) ∧ ((¬ x1 ≤ x2) → ∃ (d_2 : Nat) (q_3 : gMem → Prop), d_2 < d ∧ Ctr l D d_2 yX10_passes cX10_passes 6 none [.ref (D.2.2 10 r0), .int (1 : Int32), .int (0 : Int32)] μ (pV q_3) ∧ ∀ (μ_6 : gMem), q_3 μ_6 → ∀ x2_9 : Int32, x2_9 = x2 + (1 : Int32) → pt_X10_runs_1 l D d q Γ r0 x1 x2_9 μ_6)) : pt_X10_runs_1 l D d q Γ r0 x1 x2 μ := by
  unfold pt_X10_runs_1
  refine g_iload_n dX10_runs_8 rfl ?_
  refine g_iload_n dX10_runs_9 rfl ?_
  refine g_icmp_ge (tgt := 25) dX10_runs_10 (by decide) (fun c_1 => ?_) (fun c_1 => ?_)
  · have h := h.1 c_1
    exact g_vret dX10_runs_25 rfl ⟨rfl, h⟩
  · have h := h.2 c_1
    refine g_aload_n dX10_runs_13 rfl ?_
    refine g_iconst (1 : Int32) dX10_runs_14 rfl ?_
    refine g_iconst (0 : Int32) dX10_runs_15 rfl ?_
    obtain ⟨d_2, q_3, hd_4, hc_5, h⟩ := h
    refine g_cV ca_X10_390 ob_10 hc_5 hd_4 (by decide) hr0 rfl rfl (by first | exact Nat.le_of_ble_eq_true rfl | decide) dX10_runs_16 (kV (fun μ_6 hq_8 => ?_))
    have h := h μ_6 hq_8
    refine g_iinc dX10_runs_19 rfl (by decide) (fun x2_9 ex2_9 => g_sub (lv' := [(0, .ref (D.2.2 10 r0)), (1, .int x1), (2, .int x2_9)]) [1, 2, 0] rfl ?_)
    have h := h x2_9 ex2_9
    refine g_goto (tgt := 8) dX10_runs_22 (by decide) ?_
    exact g_sub [0, 1, 2] rfl h
theorem en_X10_runs {l : Launch} {D : gD} {d : Nat} {q : gMem → Prop} {r0 : Nat} {x1 : Int32} {μ : gMem} (h : ∀ Γ : gC, pt_X10_runs_0 l D d q Γ r0 x1 μ) : Ctr l D d yX10_runs cX10_runs 3 none [.ref (D.2.2 10 r0), .int x1] μ (pV q) :=
  Ctr_of rfl (by decide) (Nat.le_of_ble_eq_true rfl) (fun Γ => g_sub [0, 1] rfl (h Γ))
def pt_X10_sumOf_0 (l : Launch) (D : gD) (d : Nat) (q : Int32 → gMem → Prop) (Γ : gC) (r0 : Nat) (k1 : Nat) (i1 : Nat) (x2 : Int32) (μ : gMem) : Prop := G l D RX10 cX10_sumOf 5 (some .int) d (pI q) Γ 0 [(0, .ref (D.2.2 10 r0)), (1, .ref (D.2.2 k1 i1)), (2, .int x2)] [] μ
def pt_X10_sumOf_1 (l : Launch) (D : gD) (d : Nat) (q : Int32 → gMem → Prop) (Γ : gC) (r0 : Nat) (k1 : Nat) (i1 : Nat) (x2 : Int32) (x3 : Int32) (x4 : Int32) (μ : gMem) : Prop := G l D RX10 cX10_sumOf 5 (some .int) d (pI q) Γ 5 [(0, .ref (D.2.2 10 r0)), (1, .ref (D.2.2 k1 i1)), (2, .int x2), (3, .int x3), (4, .int x4)] [] μ
set_option maxRecDepth 20000 in
set_option maxHeartbeats 4000000 in
theorem bl_X10_sumOf_0 {l : Launch} {D : gD} {d : Nat} {q : Int32 → gMem → Prop} {Γ : gC} {r0 : Nat} {k1 : Nat} {i1 : Nat} {x2 : Int32} {μ : gMem} (hr0 : r0 < 1) (hk1 : gsh k1 = (1, (gsh k1).2.1, 0)) (hi1 : i1 < gkn k1) (h : ∀ x3_1 : Int32, x3_1 = (0 : Int32) → ∀ x4_2 : Int32, x4_2 = (0 : Int32) → pt_X10_sumOf_1 l D d q Γ r0 k1 i1 x2 x3_1 x4_2 μ) : pt_X10_sumOf_0 l D d q Γ r0 k1 i1 x2 μ := by
  unfold pt_X10_sumOf_0
  refine g_iconst (0 : Int32) dX10_sumOf_0 rfl ?_
  refine g_istore_n dX10_sumOf_1 (by decide) (fun x3_1 ex3_1 => g_sub (lv' := [(0, .ref (D.2.2 10 r0)), (1, .ref (D.2.2 k1 i1)), (2, .int x2), (3, .int x3_1)]) [1, 2, 3, 0] rfl ?_)
  have h := h x3_1 ex3_1
  refine g_iconst (0 : Int32) dX10_sumOf_2 rfl ?_
  refine g_istore dX10_sumOf_3 (by decide) (fun x4_2 ex4_2 => g_sub (lv' := [(0, .ref (D.2.2 10 r0)), (1, .ref (D.2.2 k1 i1)), (2, .int x2), (3, .int x3_1), (4, .int x4_2)]) [1, 2, 3, 4, 0] rfl ?_)
  have h := h x4_2 ex4_2
  exact g_sub [0, 1, 2, 3, 4] rfl h
set_option maxRecDepth 20000 in
set_option maxHeartbeats 4000000 in
theorem bl_X10_sumOf_1 {l : Launch} {D : gD} {d : Nat} {q : Int32 → gMem → Prop} {Γ : gC} {r0 : Nat} {k1 : Nat} {i1 : Nat} {x2 : Int32} {x3 : Int32} {x4 : Int32} {μ : gMem} (hr0 : r0 < 1) (hk1 : gsh k1 = (1, (gsh k1).2.1, 0)) (hi1 : i1 < gkn k1) (h : (((μ.1 707 r0 0) ≤ x4) → q x3 μ) ∧ ((¬ (μ.1 707 r0 0) ≤ x4) → ∃ j_3 : Nat, j_3 < (gsh k1).2.1 ∧ (gsh k1).2.1 < 2 ^ 31 ∧ ((5 : Int32) * x2) + x4 = nI j_3 ∧ (∀ x3_5 : Int32, x3_5 = x3 + (μ.1 k1 i1 j_3) → ∀ x4_6 : Int32, x4_6 = x4 + (1 : Int32) → pt_X10_sumOf_1 l D d q Γ r0 k1 i1 x2 x3_5 x4_6 μ))) : pt_X10_sumOf_1 l D d q Γ r0 k1 i1 x2 x3 x4 μ := by
  unfold pt_X10_sumOf_1
  refine g_iload dX10_sumOf_5 rfl ?_
  refine g_aload_n dX10_sumOf_7 rfl ?_
  refine g_gfR fl_10_13 rfl hr0 dX10_sumOf_8 ?_
  refine g_iconst (0 : Int32) dX10_sumOf_11 rfl ?_
  refine g_iald 0 hr0 rfl (by decide) (by decide) rfl dX10_sumOf_12 ?_
  refine g_icmp_ge (tgt := 33) dX10_sumOf_13 (by decide) (fun c_2 => ?_) (fun c_2 => ?_)
  · have h := h.1 c_2
    refine g_iload_n dX10_sumOf_33 rfl ?_
    exact g_iret dX10_sumOf_34 rfl rfl ⟨_, rfl, h⟩
  · have h := h.2 c_2
    refine g_iload_n dX10_sumOf_16 rfl ?_
    refine g_aload_n dX10_sumOf_17 rfl ?_
    refine g_iconst (5 : Int32) dX10_sumOf_18 rfl ?_
    refine g_iload_n dX10_sumOf_19 rfl ?_
    refine g_imul dX10_sumOf_20 ?_
    refine g_iload dX10_sumOf_21 rfl ?_
    refine g_iadd dX10_sumOf_23 ?_
    obtain ⟨j_3, hj_3, hn_4, ej_3, h⟩ := h
    refine g_iald j_3 hi1 hk1 hj_3 hn_4 ej_3 dX10_sumOf_24 ?_
    refine g_iadd dX10_sumOf_25 ?_
    refine g_istore_n dX10_sumOf_26 (by decide) (fun x3_5 ex3_5 => g_sub (lv' := [(0, .ref (D.2.2 10 r0)), (1, .ref (D.2.2 k1 i1)), (2, .int x2), (3, .int x3_5), (4, .int x4)]) [1, 2, 3, 0, 4] rfl ?_)
    have h := h x3_5 ex3_5
    refine g_iinc dX10_sumOf_27 rfl (by decide) (fun x4_6 ex4_6 => g_sub (lv' := [(0, .ref (D.2.2 10 r0)), (1, .ref (D.2.2 k1 i1)), (2, .int x2), (3, .int x3_5), (4, .int x4_6)]) [1, 2, 3, 4, 0] rfl ?_)
    have h := h x4_6 ex4_6
    refine g_goto (tgt := 5) dX10_sumOf_30 (by decide) ?_
    exact g_sub [0, 1, 2, 3, 4] rfl h
theorem en_X10_sumOf {l : Launch} {D : gD} {d : Nat} {q : Int32 → gMem → Prop} {r0 : Nat} {k1 : Nat} {i1 : Nat} {x2 : Int32} {μ : gMem} (h : ∀ Γ : gC, pt_X10_sumOf_0 l D d q Γ r0 k1 i1 x2 μ) : Ctr l D d yX10_sumOf cX10_sumOf 5 (some .int) [.ref (D.2.2 10 r0), .ref (D.2.2 k1 i1), .int x2] μ (pI q) :=
  Ctr_of rfl (by decide) (Nat.le_of_ble_eq_true rfl) (fun Γ => g_sub [0, 1, 2] rfl (h Γ))
