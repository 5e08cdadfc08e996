def pt_X10_passes_0 (l : Launch) (D : gD) (d : Nat) (q : gMem → Prop) (Γ : gC) (r0 : Nat) (x1 : Int32) (x2 : Int32) (μ : gMem) : Prop := G l D RX10 cX10_passes 6 none d (pV q) Γ 0 [(0, .ref (D.2.2 10 r0)), (1, .int x1), (2, .int x2)] [] μ
def pt_X10_passes_1 (l : Launch) (D : gD) (d : Nat) (q : gMem → Prop) (Γ : gC) (r0 : Nat) (x1 : Int32) (x2 : Int32) (xs0 : Int32) (μ : gMem) : Prop := G l D RX10 cX10_passes 6 none d (pV q) Γ 19 [(0, .ref (D.2.2 10 r0)), (1, .int x1), (2, .int x2)] [.int xs0] μ
def pt_X10_passes_2 (l : Launch) (D : gD) (d : Nat) (q : gMem → Prop) (Γ : gC) (r0 : Nat) (x1 : Int32) (x2 : Int32) (x3 : Int32) (xs0 : Int32) (μ : gMem) : Prop := G l D RX10 cX10_passes 6 none d (pV q) Γ 31 [(0, .ref (D.2.2 10 r0)), (1, .int x1), (2, .int x2), (3, .int x3)] [.int xs0] μ
def pt_X10_passes_3 (l : Launch) (D : gD) (d : Nat) (q : gMem → Prop) (Γ : gC) (r0 : Nat) (x1 : Int32) (xs0 : Int32) (μ : gMem) : Prop := G l D RX10 cX10_passes 6 none d (pV q) Γ 86 [(0, .ref (D.2.2 10 r0)), (1, .int x1)] [.int xs0] μ
def pt_X10_passes_4 (l : Launch) (D : gD) (d : Nat) (q : gMem → Prop) (Γ : gC) (r0 : Nat) (x1 : Int32) (x4 : Int32) (μ : gMem) : Prop := G l D RX10 cX10_passes 6 none d (pV q) Γ 88 [(0, .ref (D.2.2 10 r0)), (1, .int x1), (4, .int x4)] [] μ
def pt_X10_passes_5 (l : Launch) (D : gD) (d : Nat) (q : gMem → Prop) (Γ : gC) (r0 : Nat) (x1 : Int32) (x4 : Int32) (rs0 : Nat) (xs1 : Int32) (xs2 : Int32) (xs3 : Int32) (μ : gMem) : Prop := G l D RX10 cX10_passes 6 none d (pV q) Γ 105 [(0, .ref (D.2.2 10 r0)), (1, .int x1), (4, .int x4)] [.int xs3, .int xs2, .int xs1, .ref (D.2.2 738 rs0)] μ
def pt_X10_passes_6 (l : Launch) (D : gD) (d : Nat) (q : gMem → Prop) (Γ : gC) (r0 : Nat) (x1 : Int32) (x4 : Int32) (x5 : Int32) (μ : gMem) : Prop := G l D RX10 cX10_passes 6 none d (pV q) Γ 110 [(0, .ref (D.2.2 10 r0)), (1, .int x1), (4, .int x4), (5, .int x5)] [] μ
def pt_X10_passes_7 (l : Launch) (D : gD) (d : Nat) (q : gMem → Prop) (Γ : gC) (r0 : Nat) (x1 : Int32) (x4 : Int32) (x5 : Int32) (μ : gMem) : Prop := G l D RX10 cX10_passes 6 none d (pV q) Γ 139 [(0, .ref (D.2.2 10 r0)), (1, .int x1), (4, .int x4), (5, .int x5)] [] μ
def pt_X10_passes_8 (l : Launch) (D : gD) (d : Nat) (q : gMem → Prop) (Γ : gC) (r0 : Nat) (x1 : Int32) (μ : gMem) : Prop := G l D RX10 cX10_passes 6 none d (pV q) Γ 216 [(0, .ref (D.2.2 10 r0)), (1, .int x1)] [] μ
def pt_X10_passes_9 (l : Launch) (D : gD) (d : Nat) (q : gMem → Prop) (Γ : gC) (r0 : Nat) (x1 : Int32) (x5 : Int32) (μ : gMem) : Prop := G l D RX10 cX10_passes 6 none d (pV q) Γ 219 [(0, .ref (D.2.2 10 r0)), (1, .int x1), (5, .int x5)] [] μ
set_option maxRecDepth 20000 in
set_option maxHeartbeats 4000000 in
theorem bl_X10_passes_0 {l : Launch} {D : gD} {d : Nat} {q : gMem → Prop} {Γ : gC} {r0 : Nat} {x1 : Int32} {x2 : Int32} {μ : gMem} (hr0 : r0 < 1) (h : ((¬ (μ.1 10 r0 51) = (1 : Int32)) → ∃ j_2 : Nat, j_2 < 20 ∧ (7 : Int32) = nI j_2 ∧ (pt_X10_passes_1 l D d q Γ r0 x1 x2 (μ.1 707 r0 j_2) μ)) ∧ (((μ.1 10 r0 51) = (1 : Int32)) → pt_X10_passes_1 l D d q Γ r0 x1 x2 (0 : Int32) μ)) : pt_X10_passes_0 l D d q Γ r0 x1 x2 μ := by
  unfold pt_X10_passes_0
  refine g_aload_n dX10_passes_0 rfl ?_
  refine g_gfI fi_10_331 hr0 dX10_passes_1 ?_
  refine g_iconst (1 : Int32) dX10_passes_4 rfl ?_
  refine g_icmp_ne (tgt := 12) dX10_passes_5 (by decide) (fun c_1 => ?_) (fun c_1 => ?_)
  · have h := h.1 c_1
    refine g_aload_n dX10_passes_12 rfl ?_
    refine g_gfR fl_10_13 rfl hr0 dX10_passes_13 ?_
    refine g_bipush (7 : Int32) dX10_passes_16 rfl ?_
    obtain ⟨j_2, hj_2, ej_2, h⟩ := h
    refine g_iald j_2 hr0 rfl hj_2 (by decide) ej_2 dX10_passes_18 ?_
    exact g_sub [0, 1, 2] rfl h
  · have h := h.2 c_1
    refine g_iconst (0 : Int32) dX10_passes_8 rfl ?_
    refine g_goto (tgt := 19) dX10_passes_9 (by decide) ?_
    exact g_sub [0, 1, 2] rfl h
set_option maxRecDepth 20000 in
set_option maxHeartbeats 4000000 in
theorem bl_X10_passes_1 {l : Launch} {D : gD} {d : Nat} {q : gMem → Prop} {Γ : gC} {r0 : Nat} {x1 : Int32} {x2 : Int32} {xs0 : Int32} {μ : gMem} (hr0 : r0 < 1) (h : ∀ x3_1 : Int32, x3_1 = xs0 → ((x3_1 < (50 : Int32)) → pt_X10_passes_2 l D d q Γ r0 x1 x2 x3_1 (0 : Int32) μ) ∧ ((¬ x3_1 < (50 : Int32)) → pt_X10_passes_2 l D d q Γ r0 x1 x2 x3_1 (1 : Int32) μ)) : pt_X10_passes_1 l D d q Γ r0 x1 x2 xs0 μ := by
  unfold pt_X10_passes_1
  refine g_istore_n dX10_passes_19 (by decide) (fun x3_1 ex3_1 => g_sub (lv' := [(0, .ref (D.2.2 10 r0)), (1, .int x1), (2, .int x2), (3, .int x3_1)]) [1, 2, 3, 0] rfl ?_)
  have h := h x3_1 ex3_1
  refine g_iload_n dX10_passes_20 rfl ?_
  refine g_bipush (50 : Int32) dX10_passes_21 rfl ?_
  refine g_icmp_lt (tgt := 30) dX10_passes_23 (by decide) (fun c_2 => ?_) (fun c_2 => ?_)
  · have h := h.1 c_2
    refine g_iconst (0 : Int32) dX10_passes_30 rfl ?_
    exact g_sub [0, 1, 2, 3] rfl h
  · have h := h.2 c_2
    refine g_iconst (1 : Int32) dX10_passes_26 rfl ?_
    refine g_goto (tgt := 31) dX10_passes_27 (by decide) ?_
    exact g_sub [0, 1, 2, 3] rfl h
set_option maxRecDepth 20000 in
set_option maxHeartbeats 4000000 in
theorem bl_X10_passes_2 {l : Launch} {D : gD} {d : Nat} {q : gMem → Prop} {Γ : gC} {r0 : Nat} {x1 : Int32} {x2 : Int32} {x3 : Int32} {xs0 : Int32} {μ : gMem} (hr0 : r0 < 1) (h : ∀ x4_1 : Int32, x4_1 = xs0 → ((x2 = 0) → pt_X10_passes_4 l D d q Γ r0 x1 x4_1 μ) ∧ ((¬ x2 = 0) → ((x3 ≤ 0) → pt_X10_passes_4 l D d q Γ r0 x1 x4_1 μ) ∧ ((¬ x3 ≤ 0) → ∃ j_4 : Nat, j_4 < 23 ∧ x1 = nI j_4 ∧ (∃ j_5 : Nat, j_5 < 23 ∧ x1 = nI j_5 ∧ (∀ μ_6 : gMem, μ_6 = gsI μ 739 r0 j_5 ((((μ.1 739 r0 j_4) * (1103515245 : Int32)) + (12345 : Int32)) &&& (2147483647 : Int32)) → ∃ j_7 : Nat, j_7 < 23 ∧ x1 = nI j_7 ∧ (((x3 ≤ (((μ_6.1 739 r0 j_7) >>> ((16 : Int32) &&& 31)) - ((μ_6.1 739 r0 j_7) >>> ((16 : Int32) &&& 31)) / (100 : Int32) * (100 : Int32))) → pt_X10_passes_3 l D d q Γ r0 x1 (0 : Int32) μ_6) ∧ ((¬ x3 ≤ (((μ_6.1 739 r0 j_7) >>> ((16 : Int32) &&& 31)) - ((μ_6.1 739 r0 j_7) >>> ((16 : Int32) &&& 31)) / (100 : Int32) * (100 : Int32))) → pt_X10_passes_3 l D d q Γ r0 x1 (1 : Int32) μ_6))))))) : pt_X10_passes_2 l D d q Γ r0 x1 x2 x3 xs0 μ := by
  unfold pt_X10_passes_2
  refine g_istore dX10_passes_31 (by decide) (fun x4_1 ex4_1 => g_sub (lv' := [(0, .ref (D.2.2 10 r0)), (1, .int x1), (2, .int x2), (3, .int x3), (4, .int x4_1)]) [1, 2, 3, 4, 0] rfl ?_)
  have h := h x4_1 ex4_1
  refine g_iload_n dX10_passes_33 rfl ?_
  refine g_if_eq (tgt := 88) dX10_passes_34 (by decide) (fun c_2 => ?_) (fun c_2 => ?_)
  · have h := h.1 c_2
    exact g_sub [0, 1, 4] rfl h
  · have h := h.2 c_2
    refine g_iload_n dX10_passes_37 rfl ?_
    refine g_if_le (tgt := 88) dX10_passes_38 (by decide) (fun c_3 => ?_) (fun c_3 => ?_)
    · have h := h.1 c_3
      exact g_sub [0, 1, 4] rfl h
    · have h := h.2 c_3
      refine g_aload_n dX10_passes_41 rfl ?_
      refine g_gfR fl_10_72 rfl hr0 dX10_passes_42 ?_
      refine g_iload_n dX10_passes_45 rfl ?_
      refine g_aload_n dX10_passes_46 rfl ?_
      refine g_gfR fl_10_72 rfl hr0 dX10_passes_47 ?_
      refine g_iload_n dX10_passes_50 rfl ?_
      obtain ⟨j_4, hj_4, ej_4, h⟩ := h
      refine g_iald j_4 hr0 rfl hj_4 (by decide) ej_4 dX10_passes_51 ?_
      refine g_ldcw kc_X10_373 dX10_passes_52 ?_
      refine g_imul dX10_passes_55 ?_
      refine g_sipush (12345 : Int32) dX10_passes_56 rfl ?_
      refine g_iadd dX10_passes_59 ?_
      refine g_ldcw kc_X10_376 dX10_passes_60 ?_
      refine g_iand dX10_passes_63 ?_
      obtain ⟨j_5, hj_5, ej_5, h⟩ := h
      refine g_iast j_5 hr0 rfl hj_5 (by decide) ej_5 dX10_passes_64 ?_
      obtain ⟨μ_6, eμ_6⟩ : ∃ z : gMem, z = gsI μ 739 r0 j_5 ((((μ.1 739 r0 j_4) * (1103515245 : Int32)) + (12345 : Int32)) &&& (2147483647 : Int32)) := ⟨_, rfl⟩
      have h := h μ_6 eμ_6
      refine g_mem eμ_6.symm ?_
      refine g_aload_n dX10_passes_65 rfl ?_
      refine g_gfR fl_10_72 rfl hr0 dX10_passes_66 ?_
      refine g_iload_n dX10_passes_69 rfl ?_
      obtain ⟨j_7, hj_7, ej_7, h⟩ := h
      refine g_iald j_7 hr0 rfl hj_7 (by decide) ej_7 dX10_passes_70 ?_
      refine g_bipush (16 : Int32) dX10_passes_71 rfl ?_
      refine g_ishr dX10_passes_73 ?_
      refine g_bipush (100 : Int32) dX10_passes_74 rfl ?_
      refine g_irem dX10_passes_76 (by decide) ?_
      refine g_iload_n dX10_passes_77 rfl ?_
      refine g_icmp_ge (tgt := 85) dX10_passes_78 (by decide) (fun c_8 => ?_) (fun c_8 => ?_)
      · have h := h.1 c_8
        refine g_iconst (0 : Int32) dX10_passes_85 rfl ?_
        exact g_sub [0, 1] rfl h
      · have h := h.2 c_8
        refine g_iconst (1 : Int32) dX10_passes_81 rfl ?_
        refine g_goto (tgt := 86) dX10_passes_82 (by decide) ?_
        exact g_sub [0, 1] rfl h
set_option maxRecDepth 20000 in
set_option maxHeartbeats 4000000 in
theorem bl_X10_passes_3 {l : Launch} {D : gD} {d : Nat} {q : gMem → Prop} {Γ : gC} {r0 : Nat} {x1 : Int32} {xs0 : Int32} {μ : gMem} (hr0 : r0 < 1) (h : ∀ x4_1 : Int32, x4_1 = xs0 → pt_X10_passes_4 l D d q Γ r0 x1 x4_1 μ) : pt_X10_passes_3 l D d q Γ r0 x1 xs0 μ := by
  unfold pt_X10_passes_3
  refine g_istore dX10_passes_86 (by decide) (fun x4_1 ex4_1 => g_sub (lv' := [(0, .ref (D.2.2 10 r0)), (1, .int x1), (4, .int x4_1)]) [1, 2, 0] rfl ?_)
  have h := h x4_1 ex4_1
  exact g_sub [0, 1, 2] rfl h
set_option maxRecDepth 20000 in
set_option maxHeartbeats 4000000 in
theorem bl_X10_passes_4 {l : Launch} {D : gD} {d : Nat} {q : gMem → Prop} {Γ : gC} {r0 : Nat} {x1 : Int32} {x4 : Int32} {μ : gMem} (hr0 : r0 < 1) (h : ∃ j_1 : Nat, j_1 < 23 ∧ x1 = nI j_1 ∧ (((x4 = 0) → pt_X10_passes_5 l D d q Γ r0 x1 x4 r0 x1 (μ.1 738 r0 j_1) (0 : Int32) μ) ∧ ((¬ x4 = 0) → pt_X10_passes_5 l D d q Γ r0 x1 x4 r0 x1 (μ.1 738 r0 j_1) (1 : Int32) μ))) : pt_X10_passes_4 l D d q Γ r0 x1 x4 μ := by
  unfold pt_X10_passes_4
  refine g_aload_n dX10_passes_88 rfl ?_
  refine g_gfR fl_10_69 rfl hr0 dX10_passes_89 ?_
  refine g_iload_n dX10_passes_92 rfl ?_
  refine g_dup2 dX10_passes_93 rfl rfl ?_
  obtain ⟨j_1, hj_1, ej_1, h⟩ := h
  refine g_iald j_1 hr0 rfl hj_1 (by decide) ej_1 dX10_passes_94 ?_
  refine g_iload dX10_passes_95 rfl ?_
  refine g_if_eq (tgt := 104) dX10_passes_97 (by decide) (fun c_2 => ?_) (fun c_2 => ?_)
  · have h := h.1 c_2
    refine g_iconst (0 : Int32) dX10_passes_104 rfl ?_
    exact g_sub [0, 1, 2] rfl h
  · have h := h.2 c_2
    refine g_iconst (1 : Int32) dX10_passes_100 rfl ?_
    refine g_goto (tgt := 105) dX10_passes_101 (by decide) ?_
    exact g_sub [0, 1, 2] rfl h
set_option maxRecDepth 20000 in
set_option maxHeartbeats 4000000 in
theorem bl_X10_passes_5 {l : Launch} {D : gD} {d : Nat} {q : gMem → Prop} {Γ : gC} {r0 : Nat} {x1 : Int32} {x4 : Int32} {rs0 : Nat} {xs1 : Int32} {xs2 : Int32} {xs3 : Int32} {μ : gMem} (hr0 : r0 < 1) (hrs0 : rs0 < 1) (h : ∃ j_1 : Nat, j_1 < 23 ∧ xs1 = nI j_1 ∧ (∀ μ_2 : gMem, μ_2 = gsI μ 738 rs0 j_1 (xs2 + xs3) → ∀ x5_3 : Int32, x5_3 = (0 : Int32) → pt_X10_passes_6 l D d q Γ r0 x1 x4 x5_3 μ_2)) : pt_X10_passes_5 l D d q Γ r0 x1 x4 rs0 xs1 xs2 xs3 μ := by
  unfold pt_X10_passes_5
  refine g_iadd dX10_passes_105 ?_
  obtain ⟨j_1, hj_1, ej_1, h⟩ := h
  refine g_iast j_1 hrs0 rfl hj_1 (by decide) ej_1 dX10_passes_106 ?_
  obtain ⟨μ_2, eμ_2⟩ : ∃ z : gMem, z = gsI μ 738 rs0 j_1 (xs2 + xs3) := ⟨_, rfl⟩
  have h := h μ_2 eμ_2
  refine g_mem eμ_2.symm ?_
  refine g_iconst (0 : Int32) dX10_passes_107 rfl ?_
  refine g_istore dX10_passes_108 (by decide) (fun x5_3 ex5_3 => g_sub (lv' := [(0, .ref (D.2.2 10 r0)), (1, .int x1), (4, .int x4), (5, .int x5_3)]) [1, 2, 3, 0] rfl ?_)
  have h := h x5_3 ex5_3
  exact g_sub [0, 1, 2, 3] rfl h
set_option maxRecDepth 20000 in
set_option maxHeartbeats 4000000 in
theorem bl_X10_passes_6 {l : Launch} {D : gD} {d : Nat} {q : gMem → Prop} {Γ : gC} {r0 : Nat} {x1 : Int32} {x4 : Int32} {x5 : Int32} {μ : gMem} (hr0 : r0 < 1) (h : ∃ j_1 : Nat, j_1 < 20 ∧ (0 : Int32) = nI j_1 ∧ ((((μ.1 707 r0 j_1) ≤ x5) → ∀ μ_3 : gMem, μ_3 = gsI μ 10 r0 48 (-1 : Int32) → ∃ j_4 : Nat, j_4 < 23 ∧ x1 = nI j_4 ∧ (∃ j_5 : Nat, j_5 < 23 ∧ x1 = nI j_5 ∧ (∀ μ_6 : gMem, μ_6 = gsI μ_3 737 r0 j_5 ((μ_3.1 737 r0 j_4) + (1 : Int32)) → ∃ j_7 : Nat, j_7 < 23 ∧ x1 = nI j_7 ∧ (∃ j_8 : Nat, j_8 < 20 ∧ (4 : Int32) = nI j_8 ∧ ((¬ μ_6.1 707 r0 j_8 = 0) ∧ (((((μ_6.1 737 r0 j_7) - (μ_6.1 737 r0 j_7) / (μ_6.1 707 r0 j_8) * (μ_6.1 707 r0 j_8)) = 0) → ∃ (d_11 : Nat) (q_12 : Int32 → gMem → Prop), d_11 < d ∧ Ctr l D d_11 yX10_leader cX10_leader 4 (some .int) [.ref (D.2.2 10 r0), .int x1] μ_6 (pI q_12) ∧ ∀ (v_16 : Int32) (μ_15 : gMem), q_12 v_16 μ_15 → ∀ μ_18 : gMem, μ_18 = gsI μ_15 10 r0 48 v_16 → (((μ_18.1 10 r0 48) = (-1 : Int32)) → pt_X10_passes_8 l D d q Γ r0 x1 μ_18) ∧ ((¬ (μ_18.1 10 r0 48) = (-1 : Int32)) → ∃ j_20 : Nat, j_20 < 115 ∧ ((5 : Int32) * x1) + (μ_18.1 10 r0 48) = nI j_20 ∧ (∃ j_21 : Nat, j_21 < 20 ∧ (3 : Int32) = nI j_21 ∧ (∃ j_22 : Nat, j_22 < 115 ∧ ((5 : Int32) * x1) + (μ_18.1 10 r0 48) = nI j_22 ∧ (∀ μ_23 : gMem, μ_23 = gsI μ_18 750 r0 j_22 ((μ_18.1 750 r0 j_20) + (μ_18.1 707 r0 j_21)) → pt_X10_passes_8 l D d q Γ r0 x1 μ_23))))) ∧ ((¬ ((μ_6.1 737 r0 j_7) - (μ_6.1 737 r0 j_7) / (μ_6.1 707 r0 j_8) * (μ_6.1 707 r0 j_8)) = 0) → q μ_6))))))) ∧ ((¬ (μ.1 707 r0 j_1) ≤ x5) → ∃ (d_24 : Nat) (q_25 : Int32 → gMem → Prop), d_24 < d ∧ Ctr l D d_24 yX10_isThere cX10_isThere 2 (some .boolean) [.ref (D.2.2 10 r0), .int x5] μ (pI q_25) ∧ ∀ (v_29 : Int32) (μ_28 : gMem), q_25 v_29 μ_28 → ((v_29 = 0) → pt_X10_passes_7 l D d q Γ r0 x1 x4 x5 μ_28) ∧ ((¬ v_29 = 0) → ∃ (d_32 : Nat) (q_33 : gMem → Prop), d_32 < d ∧ Ctr l D d_32 yX10_walks cX10_walks 11 none [.ref (D.2.2 10 r0), .int x1, .int x5, .int x4] μ_28 (pV q_33) ∧ ∀ (μ_36 : gMem), q_33 μ_36 → pt_X10_passes_7 l D d q Γ r0 x1 x4 x5 μ_36)))) : pt_X10_passes_6 l D d q Γ r0 x1 x4 x5 μ := by
  unfold pt_X10_passes_6
  refine g_iload dX10_passes_110 rfl ?_
  refine g_aload_n dX10_passes_112 rfl ?_
  refine g_gfR fl_10_13 rfl hr0 dX10_passes_113 ?_
  refine g_iconst (0 : Int32) dX10_passes_116 rfl ?_
  obtain ⟨j_1, hj_1, ej_1, h⟩ := h
  refine g_iald j_1 hr0 rfl hj_1 (by decide) ej_1 dX10_passes_117 ?_
  refine g_icmp_ge (tgt := 145) dX10_passes_118 (by decide) (fun c_2 => ?_) (fun c_2 => ?_)
  · have h := h.1 c_2
    refine g_aload_n dX10_passes_145 rfl ?_
    refine g_iconst (-1 : Int32) dX10_passes_146 rfl ?_
    refine g_pfI fi_10_381 hr0 rfl rfl dX10_passes_147 ?_
    obtain ⟨μ_3, eμ_3⟩ : ∃ z : gMem, z = gsI μ 10 r0 48 (-1 : Int32) := ⟨_, rfl⟩
    have h := h μ_3 eμ_3
    refine g_mem eμ_3.symm ?_
    refine g_aload_n dX10_passes_150 rfl ?_
    refine g_gfR fl_10_66 rfl hr0 dX10_passes_151 ?_
    refine g_iload_n dX10_passes_154 rfl ?_
    refine g_dup2 dX10_passes_155 rfl rfl ?_
    obtain ⟨j_4, hj_4, ej_4, h⟩ := h
    refine g_iald j_4 hr0 rfl hj_4 (by decide) ej_4 dX10_passes_156 ?_
    refine g_iconst (1 : Int32) dX10_passes_157 rfl ?_
    refine g_iadd dX10_passes_158 ?_
    obtain ⟨j_5, hj_5, ej_5, h⟩ := h
    refine g_iast j_5 hr0 rfl hj_5 (by decide) ej_5 dX10_passes_159 ?_
    obtain ⟨μ_6, eμ_6⟩ : ∃ z : gMem, z = gsI μ_3 737 r0 j_5 ((μ_3.1 737 r0 j_4) + (1 : Int32)) := ⟨_, rfl⟩
    have h := h μ_6 eμ_6
    refine g_mem eμ_6.symm ?_
    refine g_aload_n dX10_passes_160 rfl ?_
    refine g_gfR fl_10_66 rfl hr0 dX10_passes_161 ?_
    refine g_iload_n dX10_passes_164 rfl ?_
    obtain ⟨j_7, hj_7, ej_7, h⟩ := h
    refine g_iald j_7 hr0 rfl hj_7 (by decide) ej_7 dX10_passes_165 ?_
    refine g_aload_n dX10_passes_166 rfl ?_
    refine g_gfR fl_10_13 rfl hr0 dX10_passes_167 ?_
    refine g_iconst (4 : Int32) dX10_passes_170 rfl ?_
    obtain ⟨j_8, hj_8, ej_8, h⟩ := h
    refine g_iald j_8 hr0 rfl hj_8 (by decide) ej_8 dX10_passes_171 ?_
    obtain ⟨nz_9, h⟩ := h
    refine g_irem dX10_passes_172 nz_9 ?_
    refine g_if_eq (tgt := 177) dX10_passes_173 (by decide) (fun c_10 => ?_) (fun c_10 => ?_)
    · have h := h.1 c_10
      refine g_aload_n dX10_passes_177 rfl ?_
      refine g_aload_n dX10_passes_178 rfl ?_
      refine g_iload_n dX10_passes_179 rfl ?_
      obtain ⟨d_11, q_12, hd_13, hc_14, h⟩ := h
      refine g_cV ca_X10_384 ob_10 hc_14 hd_13 (by decide) hr0 rfl rfl (by first | exact Nat.le_of_ble_eq_true rfl | decide) dX10_passes_180 (kI (fun v_16 μ_15 hq_17 => ?_))
      have h := h v_16 μ_15 hq_17
      refine g_pfI fi_10_381 hr0 rfl rfl dX10_passes_183 ?_
      obtain ⟨μ_18, eμ_18⟩ : ∃ z : gMem, z = gsI μ_15 10 r0 48 v_16 := ⟨_, rfl⟩
      have h := h μ_18 eμ_18
      refine g_mem eμ_18.symm ?_
      refine g_aload_n dX10_passes_186 rfl ?_
      refine g_gfI fi_10_381 hr0 dX10_passes_187 ?_
      refine g_iconst (-1 : Int32) dX10_passes_190 rfl ?_
      refine g_icmp_eq (tgt := 216) dX10_passes_191 (by decide) (fun c_19 => ?_) (fun c_19 => ?_)
      · have h := h.1 c_19
        exact g_sub [0, 1] rfl h
      · have h := h.2 c_19
        refine g_aload_n dX10_passes_194 rfl ?_
        refine g_gfR fl_10_105 rfl hr0 dX10_passes_195 ?_
        refine g_iconst (5 : Int32) dX10_passes_198 rfl ?_
        refine g_iload_n dX10_passes_199 rfl ?_
        refine g_imul dX10_passes_200 ?_
        refine g_aload_n dX10_passes_201 rfl ?_
        refine g_gfI fi_10_381 hr0 dX10_passes_202 ?_
        refine g_iadd dX10_passes_205 ?_
        refine g_dup2 dX10_passes_206 rfl rfl ?_
        obtain ⟨j_20, hj_20, ej_20, h⟩ := h
        refine g_iald j_20 hr0 rfl hj_20 (by decide) ej_20 dX10_passes_207 ?_
        refine g_aload_n dX10_passes_208 rfl ?_
        refine g_gfR fl_10_13 rfl hr0 dX10_passes_209 ?_
        refine g_iconst (3 : Int32) dX10_passes_212 rfl ?_
        obtain ⟨j_21, hj_21, ej_21, h⟩ := h
        refine g_iald j_21 hr0 rfl hj_21 (by decide) ej_21 dX10_passes_213 ?_
        refine g_iadd dX10_passes_214 ?_
        obtain ⟨j_22, hj_22, ej_22, h⟩ := h
        refine g_iast j_22 hr0 rfl hj_22 (by decide) ej_22 dX10_passes_215 ?_
        obtain ⟨μ_23, eμ_23⟩ : ∃ z : gMem, z = gsI μ_18 750 r0 j_22 ((μ_18.1 750 r0 j_20) + (μ_18.1 707 r0 j_21)) := ⟨_, rfl⟩
        have h := h μ_23 eμ_23
        refine g_mem eμ_23.symm ?_
        exact g_sub [0, 1] rfl h
    · have h := h.2 c_10
      exact g_vret dX10_passes_176 rfl ⟨rfl, h⟩
  · have h := h.2 c_2
    refine g_aload_n dX10_passes_121 rfl ?_
    refine g_iload dX10_passes_122 rfl ?_
    obtain ⟨d_24, q_25, hd_26, hc_27, h⟩ := h
    refine g_cV ca_X10_334 ob_10 hc_27 hd_26 (by decide) hr0 rfl rfl (by first | exact Nat.le_of_ble_eq_true rfl | decide) dX10_passes_124 (kI (fun v_29 μ_28 hq_30 => ?_))
    have h := h v_29 μ_28 hq_30
    refine g_if_eq (tgt := 139) dX10_passes_127 (by decide) (fun c_31 => ?_) (fun c_31 => ?_)
    · have h := h.1 c_31
      exact g_sub [0, 1, 2, 3] rfl h
    · have h := h.2 c_31
      refine g_aload_n dX10_passes_130 rfl ?_
      refine g_iload_n dX10_passes_131 rfl ?_
      refine g_iload dX10_passes_132 rfl ?_
      refine g_iload dX10_passes_134 rfl ?_
      obtain ⟨d_32, q_33, hd_34, hc_35, h⟩ := h
      refine g_cV ca_X10_377 ob_10 hc_35 hd_34 (by decide) hr0 rfl rfl (by first | exact Nat.le_of_ble_eq_true rfl | decide) dX10_passes_136 (kV (fun μ_36 hq_38 => ?_))
      have h := h μ_36 hq_38
      exact g_sub [0, 1, 2, 3] rfl h
set_option maxRecDepth 20000 in
set_option maxHeartbeats 4000000 in
theorem bl_X10_passes_7 {l : Launch} {D : gD} {d : Nat} {q : gMem → Prop} {Γ : gC} {r0 : Nat} {x1 : Int32} {x4 : Int32} {x5 : Int32} {μ : gMem} (hr0 : r0 < 1) (h : ∀ x5_1 : Int32, x5_1 = x5 + (1 : Int32) → pt_X10_passes_6 l D d q Γ r0 x1 x4 x5_1 μ) : pt_X10_passes_7 l D d q Γ r0 x1 x4 x5 μ := by
  unfold pt_X10_passes_7
  refine g_iinc dX10_passes_139 rfl (by decide) (fun x5_1 ex5_1 => g_sub (lv' := [(0, .ref (D.2.2 10 r0)), (1, .int x1), (4, .int x4), (5, .int x5_1)]) [1, 2, 3, 0] rfl ?_)
  have h := h x5_1 ex5_1
  refine g_goto (tgt := 110) dX10_passes_142 (by decide) ?_
  exact g_sub [0, 1, 2, 3] rfl h
set_option maxRecDepth 20000 in
set_option maxHeartbeats 4000000 in
theorem bl_X10_passes_8 {l : Launch} {D : gD} {d : Nat} {q : gMem → Prop} {Γ : gC} {r0 : Nat} {x1 : Int32} {μ : gMem} (hr0 : r0 < 1) (h : ∀ x5_1 : Int32, x5_1 = (0 : Int32) → pt_X10_passes_9 l D d q Γ r0 x1 x5_1 μ) : pt_X10_passes_8 l D d q Γ r0 x1 μ := by
  unfold pt_X10_passes_8
  refine g_iconst (0 : Int32) dX10_passes_216 rfl ?_
  refine g_istore dX10_passes_217 (by decide) (fun x5_1 ex5_1 => g_sub (lv' := [(0, .ref (D.2.2 10 r0)), (1, .int x1), (5, .int x5_1)]) [1, 2, 0] rfl ?_)
  have h := h x5_1 ex5_1
  exact g_sub [0, 1, 2] rfl h
set_option maxRecDepth 20000 in
set_option maxHeartbeats 4000000 in
theorem bl_X10_passes_9 {l : Launch} {D : gD} {d : Nat} {q : gMem → Prop} {Γ : gC} {r0 : Nat} {x1 : Int32} {x5 : Int32} {μ : gMem} (hr0 : r0 < 1) (h : (((5 : Int32) ≤ x5) → q μ) ∧ ((¬ (5 : Int32) ≤ x5) → ∃ j_2 : Nat, j_2 < 115 ∧ ((5 : Int32) * x1) + x5 = nI j_2 ∧ (∀ μ_3 : gMem, μ_3 = gsI μ 744 r0 j_2 (0 : Int32) → ∀ x5_4 : Int32, x5_4 = x5 + (1 : Int32) → pt_X10_passes_9 l D d q Γ r0 x1 x5_4 μ_3))) : pt_X10_passes_9 l D d q Γ r0 x1 x5 μ := by
  unfold pt_X10_passes_9
  refine g_iload dX10_passes_219 rfl ?_
  refine g_iconst (5 : Int32) dX10_passes_221 rfl ?_
  refine g_icmp_ge (tgt := 243) dX10_passes_222 (by decide) (fun c_1 => ?_) (fun c_1 => ?_)
  · have h := h.1 c_1
    exact g_vret dX10_passes_243 rfl ⟨rfl, h⟩
  · have h := h.2 c_1
    refine g_aload_n dX10_passes_225 rfl ?_
    refine g_gfR fl_10_87 rfl hr0 dX10_passes_226 ?_
    refine g_iconst (5 : Int32) dX10_passes_229 rfl ?_
    refine g_iload_n dX10_passes_230 rfl ?_
    refine g_imul dX10_passes_231 ?_
    refine g_iload dX10_passes_232 rfl ?_
    refine g_iadd dX10_passes_234 ?_
    refine g_iconst (0 : Int32) dX10_passes_235 rfl ?_
    obtain ⟨j_2, hj_2, ej_2, h⟩ := h
    refine g_iast j_2 hr0 rfl hj_2 (by decide) ej_2 dX10_passes_236 ?_
    obtain ⟨μ_3, eμ_3⟩ : ∃ z : gMem, z = gsI μ 744 r0 j_2 (0 : Int32) := ⟨_, rfl⟩
    have h := h μ_3 eμ_3
    refine g_mem eμ_3.symm ?_
    refine g_iinc dX10_passes_237 rfl (by decide) (fun x5_4 ex5_4 => g_sub (lv' := [(0, .ref (D.2.2 10 r0)), (1, .int x1), (5, .int x5_4)]) [1, 2, 0] rfl ?_)
    have h := h x5_4 ex5_4
    refine g_goto (tgt := 219) dX10_passes_240 (by decide) ?_
    exact g_sub [0, 1, 2] rfl h
theorem en_X10_passes {l : Launch} {D : gD} {d : Nat} {q : gMem → Prop} {r0 : Nat} {x1 : Int32} {x2 : Int32} {μ : gMem} (h : ∀ Γ : gC, pt_X10_passes_0 l D d q Γ r0 x1 x2 μ) : Ctr l D d yX10_passes cX10_passes 6 none [.ref (D.2.2 10 r0), .int x1, .int x2] μ (pV q) :=
  Ctr_of rfl (by decide) (Nat.le_of_ble_eq_true rfl) (fun Γ => g_sub [0, 1, 2] rfl (h Γ))
def pt_X10_runs_0 (l : Launch) (D : gD) (d : Nat) (q : gMem → Prop) (Γ : gC) (r0 : Nat) (x1 : Int32) (μ : gMem) : Prop := G l D RX10 cX10_runs 3 none d (pV q) Γ 0 [(0, .ref (D.2.2 10 r0)), (1, .int x1)] [] μ
def pt_X10_runs_1 (l : Launch) (D : gD) (d : Nat) (q : gMem → Prop) (Γ : gC) (r0 : Nat) (x1 : Int32) (x2 : Int32) (μ : gMem) : Prop := G l D RX10 cX10_runs 3 none d (pV q) Γ 8 [(0, .ref (D.2.2 10 r0)), (1, .int x1), (2, .int x2)] [] μ
set_option maxRecDepth 20000 in
set_option maxHeartbeats 4000000 in
theorem bl_X10_runs_0 {l : Launch} {D : gD} {d : Nat} {q : gMem → Prop} {Γ : gC} {r0 : Nat} {x1 : Int32} {μ : gMem} (hr0 : r0 < 1) (h : ∃ (d_1 : Nat) (q_2 : gMem → Prop), d_1 < d ∧ Ctr l D d_1 yX10_copies cX10_copies 6 none [.ref (D.2.2 10 r0), .int (1 : Int32), .int (0 : Int32)] μ (pV q_2) ∧ ∀ (μ_5 : gMem), q_2 μ_5 → ∀ x2_8 : Int32, x2_8 = (0 : Int32) → pt_X10_runs_1 l D d q Γ r0 x1 x2_8 μ_5) : pt_X10_runs_0 l D d q Γ r0 x1 μ := by
  unfold pt_X10_runs_0
  refine g_aload_n dX10_runs_0 rfl ?_
  refine g_iconst (1 : Int32) dX10_runs_1 rfl ?_
  refine g_iconst (0 : Int32) dX10_runs_2 rfl ?_
  obtain ⟨d_1, q_2, hd_3, hc_4, h⟩ := h
  refine g_cV ca_X10_387 ob_10 hc_4 hd_3 (by decide) hr0 rfl rfl (by first | exact Nat.le_of_ble_eq_true rfl | decide) dX10_runs_3 (kV (fun μ_5 hq_7 => ?_))
  have h := h μ_5 hq_7
  refine g_iconst (0 : Int32) dX10_runs_6 rfl ?_
  refine g_istore_n dX10_runs_7 (by decide) (fun x2_8 ex2_8 => g_sub (lv' := [(0, .ref (D.2.2 10 r0)), (1, .int x1), (2, .int x2_8)]) [1, 2, 0] rfl ?_)
  have h := h x2_8 ex2_8
  exact g_sub [0, 1, 2] rfl h
set_option maxRecDepth 20000 in
set_option maxHeartbeats 4000000 in
theorem bl_X10_runs_1 {l : Launch} {D : gD} {d : Nat} {q : gMem → Prop} {Γ : gC} {r0 : Nat} {x1 : Int32} {x2 : Int32} {μ : gMem} (hr0 : r0 < 1) (h : ((x1 ≤ x2) → q μ) ∧ ((¬ x1 ≤ x2) → ∃ (d_2 : Nat) (q_3 : gMem → Prop), d_2 < d ∧ Ctr l D d_2 yX10_passes cX10_passes 6 none [.ref (D.2.2 10 r0), .int (1 : Int32), .int (0 : Int32)] μ (pV q_3) ∧ ∀ (μ_6 : gMem), q_3 μ_6 → ∀ x2_9 : Int32, x2_9 = x2 + (1 : Int32) → pt_X10_runs_1 l D d q Γ r0 x1 x2_9 μ_6)) : pt_X10_runs_1 l D d q Γ r0 x1 x2 μ := by
  unfold pt_X10_runs_1
  refine g_iload_n dX10_runs_8 rfl ?_
  refine g_iload_n dX10_runs_9 rfl ?_
  refine g_icmp_ge (tgt := 25) dX10_runs_10 (by decide) (fun c_1 => ?_) (fun c_1 => ?_)
  · have h := h.1 c_1
    exact g_vret dX10_runs_25 rfl ⟨rfl, h⟩
  · have h := h.2 c_1
    refine g_aload_n dX10_runs_13 rfl ?_
    refine g_iconst (1 : Int32) dX10_runs_14 rfl ?_
    refine g_iconst (0 : Int32) dX10_runs_15 rfl ?_
    obtain ⟨d_2, q_3, hd_4, hc_5, h⟩ := h
    refine g_cV ca_X10_390 ob_10 hc_5 hd_4 (by decide) hr0 rfl rfl (by first | exact Nat.le_of_ble_eq_true rfl | decide) dX10_runs_16 (kV (fun μ_6 hq_8 => ?_))
    have h := h μ_6 hq_8
    refine g_iinc dX10_runs_19 rfl (by decide) (fun x2_9 ex2_9 => g_sub (lv' := [(0, .ref (D.2.2 10 r0)), (1, .int x1), (2, .int x2_9)]) [1, 2, 0] rfl ?_)
    have h := h x2_9 ex2_9
    refine g_goto (tgt := 8) dX10_runs_22 (by decide) ?_
    exact g_sub [0, 1, 2] rfl h
theorem en_X10_runs {l : Launch} {D : gD} {d : Nat} {q : gMem → Prop} {r0 : Nat} {x1 : Int32} {μ : gMem} (h : ∀ Γ : gC, pt_X10_runs_0 l D d q Γ r0 x1 μ) : Ctr l D d yX10_runs cX10_runs 3 none [.ref (D.2.2 10 r0), .int x1] μ (pV q) :=
  Ctr_of rfl (by decide) (Nat.le_of_ble_eq_true rfl) (fun Γ => g_sub [0, 1] rfl (h Γ))
def pt_X10_sumOf_0 (l : Launch) (D : gD) (d : Nat) (q : Int32 → gMem → Prop) (Γ : gC) (r0 : Nat) (k1 : Nat) (i1 : Nat) (x2 : Int32) (μ : gMem) : Prop := G l D RX10 cX10_sumOf 5 (some .int) d (pI q) Γ 0 [(0, .ref (D.2.2 10 r0)), (1, .ref (D.2.2 k1 i1)), (2, .int x2)] [] μ
def pt_X10_sumOf_1 (l : Launch) (D : gD) (d : Nat) (q : Int32 → gMem → Prop) (Γ : gC) (r0 : Nat) (k1 : Nat) (i1 : Nat) (x2 : Int32) (x3 : Int32) (x4 : Int32) (μ : gMem) : Prop := G l D RX10 cX10_sumOf 5 (some .int) d (pI q) Γ 5 [(0, .ref (D.2.2 10 r0)), (1, .ref (D.2.2 k1 i1)), (2, .int x2), (3, .int x3), (4, .int x4)] [] μ
set_option maxRecDepth 20000 in
set_option maxHeartbeats 4000000 in
theorem bl_X10_sumOf_0 {l : Launch} {D : gD} {d : Nat} {q : Int32 → gMem → Prop} {Γ : gC} {r0 : Nat} {k1 : Nat} {i1 : Nat} {x2 : Int32} {μ : gMem} (hr0 : r0 < 1) (hk1 : gsh k1 = (1, (gsh k1).2.1, 0)) (hi1 : i1 < gkn k1) (h : ∀ x3_1 : Int32, x3_1 = (0 : Int32) → ∀ x4_2 : Int32, x4_2 = (0 : Int32) → pt_X10_sumOf_1 l D d q Γ r0 k1 i1 x2 x3_1 x4_2 μ) : pt_X10_sumOf_0 l D d q Γ r0 k1 i1 x2 μ := by
  unfold pt_X10_sumOf_0
  refine g_iconst (0 : Int32) dX10_sumOf_0 rfl ?_
  refine g_istore_n dX10_sumOf_1 (by decide) (fun x3_1 ex3_1 => g_sub (lv' := [(0, .ref (D.2.2 10 r0)), (1, .ref (D.2.2 k1 i1)), (2, .int x2), (3, .int x3_1)]) [1, 2, 3, 0] rfl ?_)
  have h := h x3_1 ex3_1
  refine g_iconst (0 : Int32) dX10_sumOf_2 rfl ?_
  refine g_istore dX10_sumOf_3 (by decide) (fun x4_2 ex4_2 => g_sub (lv' := [(0, .ref (D.2.2 10 r0)), (1, .ref (D.2.2 k1 i1)), (2, .int x2), (3, .int x3_1), (4, .int x4_2)]) [1, 2, 3, 4, 0] rfl ?_)
  have h := h x4_2 ex4_2
  exact g_sub [0, 1, 2, 3, 4] rfl h
set_option maxRecDepth 20000 in
set_option maxHeartbeats 4000000 in
theorem bl_X10_sumOf_1 {l : Launch} {D : gD} {d : Nat} {q : Int32 → gMem → Prop} {Γ : gC} {r0 : Nat} {k1 : Nat} {i1 : Nat} {x2 : Int32} {x3 : Int32} {x4 : Int32} {μ : gMem} (hr0 : r0 < 1) (hk1 : gsh k1 = (1, (gsh k1).2.1, 0)) (hi1 : i1 < gkn k1) (h : ∃ j_1 : Nat, j_1 < 20 ∧ (0 : Int32) = nI j_1 ∧ ((((μ.1 707 r0 j_1) ≤ x4) → q x3 μ) ∧ ((¬ (μ.1 707 r0 j_1) ≤ x4) → ∃ j_3 : Nat, j_3 < (gsh k1).2.1 ∧ (gsh k1).2.1 < 2 ^ 31 ∧ ((5 : Int32) * x2) + x4 = nI j_3 ∧ (∀ x3_5 : Int32, x3_5 = x3 + (μ.1 k1 i1 j_3) → ∀ x4_6 : Int32, x4_6 = x4 + (1 : Int32) → pt_X10_sumOf_1 l D d q Γ r0 k1 i1 x2 x3_5 x4_6 μ)))) : pt_X10_sumOf_1 l D d q Γ r0 k1 i1 x2 x3 x4 μ := by
  unfold pt_X10_sumOf_1
  refine g_iload dX10_sumOf_5 rfl ?_
  refine g_aload_n dX10_sumOf_7 rfl ?_
  refine g_gfR fl_10_13 rfl hr0 dX10_sumOf_8 ?_
  refine g_iconst (0 : Int32) dX10_sumOf_11 rfl ?_
  obtain ⟨j_1, hj_1, ej_1, h⟩ := h
  refine g_iald j_1 hr0 rfl hj_1 (by decide) ej_1 dX10_sumOf_12 ?_
  refine g_icmp_ge (tgt := 33) dX10_sumOf_13 (by decide) (fun c_2 => ?_) (fun c_2 => ?_)
  · have h := h.1 c_2
    refine g_iload_n dX10_sumOf_33 rfl ?_
    exact g_iret dX10_sumOf_34 rfl rfl ⟨_, rfl, h⟩
  · have h := h.2 c_2
    refine g_iload_n dX10_sumOf_16 rfl ?_
    refine g_aload_n dX10_sumOf_17 rfl ?_
    refine g_iconst (5 : Int32) dX10_sumOf_18 rfl ?_
    refine g_iload_n dX10_sumOf_19 rfl ?_
    refine g_imul dX10_sumOf_20 ?_
    refine g_iload dX10_sumOf_21 rfl ?_
    refine g_iadd dX10_sumOf_23 ?_
    obtain ⟨j_3, hj_3, hn_4, ej_3, h⟩ := h
    refine g_iald j_3 hi1 hk1 hj_3 hn_4 ej_3 dX10_sumOf_24 ?_
    refine g_iadd dX10_sumOf_25 ?_
    refine g_istore_n dX10_sumOf_26 (by decide) (fun x3_5 ex3_5 => g_sub (lv' := [(0, .ref (D.2.2 10 r0)), (1, .ref (D.2.2 k1 i1)), (2, .int x2), (3, .int x3_5), (4, .int x4)]) [1, 2, 3, 0, 4] rfl ?_)
    have h := h x3_5 ex3_5
    refine g_iinc dX10_sumOf_27 rfl (by decide) (fun x4_6 ex4_6 => g_sub (lv' := [(0, .ref (D.2.2 10 r0)), (1, .ref (D.2.2 k1 i1)), (2, .int x2), (3, .int x3_5), (4, .int x4_6)]) [1, 2, 3, 4, 0] rfl ?_)
    have h := h x4_6 ex4_6
    refine g_goto (tgt := 5) dX10_sumOf_30 (by decide) ?_
    exact g_sub [0, 1, 2, 3, 4] rfl h
theorem en_X10_sumOf {l : Launch} {D : gD} {d : Nat} {q : Int32 → gMem → Prop} {r0 : Nat} {k1 : Nat} {i1 : Nat} {x2 : Int32} {μ : gMem} (h : ∀ Γ : gC, pt_X10_sumOf_0 l D d q Γ r0 k1 i1 x2 μ) : Ctr l D d yX10_sumOf cX10_sumOf 5 (some .int) [.ref (D.2.2 10 r0), .ref (D.2.2 k1 i1), .int x2] μ (pI q) :=
  Ctr_of rfl (by decide) (Nat.le_of_ble_eq_true rfl) (fun Γ => g_sub [0, 1, 2] rfl (h Γ))
def pt_X10_man_0 (l : Launch) (D : gD) (d : Nat) (q : Int32 → gMem → Prop) (Γ : gC) (r0 : Nat) (x1 : Int32) (x2 : Int32) (μ : gMem) : Prop := G l D RX10 cX10_man 3 (some .int) d (pI q) Γ 0 [(0, .ref (D.2.2 10 r0)), (1, .int x1), (2, .int x2)] [] μ
def pt_X10_man_1 (l : Launch) (D : gD) (d : Nat) (q : Int32 → gMem → Prop) (Γ : gC) (r0 : Nat) (x1 : Int32) (x2 : Int32) (rs0 : Nat) (μ : gMem) : Prop := G l D RX10 cX10_man 3 (some .int) d (pI q) Γ 23 [(0, .ref (D.2.2 10 r0)), (1, .int x1), (2, .int x2)] [.ref (D.2.2 10 rs0)] μ
def pt_X10_man_2 (l : Launch) (D : gD) (d : Nat) (q : Int32 → gMem → Prop) (Γ : gC) (r0 : Nat) (x1 : Int32) (x2 : Int32) (rs0 : Nat) (xs1 : Int32) (μ : gMem) : Prop := G l D RX10 cX10_man 3 (some .int) d (pI q) Γ 28 [(0, .ref (D.2.2 10 r0)), (1, .int x1), (2, .int x2)] [.int xs1, .ref (D.2.2 10 rs0)] μ
set_option maxRecDepth 20000 in
set_option maxHeartbeats 4000000 in
theorem bl_X10_man_0 {l : Launch} {D : gD} {d : Nat} {q : Int32 → gMem → Prop} {Γ : gC} {r0 : Nat} {x1 : Int32} {x2 : Int32} {μ : gMem} (hr0 : r0 < 1) (h : ∃ (d_1 : Nat) (q_2 : Int32 → gMem → Prop), d_1 < d ∧ Ctr l D d_1 yX10_isMan cX10_isMan 2 (some .boolean) [.ref (D.2.2 10 r0), .int x1] μ (pI q_2) ∧ ∀ (v_6 : Int32) (μ_5 : gMem), q_2 v_6 μ_5 → ((¬ v_6 = 0) → ((x2 < 0) → pt_X10_man_1 l D d q Γ r0 x1 x2 r0 μ_5) ∧ ((¬ x2 < 0) → ((x2 ≤ (7 : Int32)) → pt_X10_man_2 l D d q Γ r0 x1 x2 r0 (0 : Int32) μ_5) ∧ ((¬ x2 ≤ (7 : Int32)) → pt_X10_man_1 l D d q Γ r0 x1 x2 r0 μ_5))) ∧ ((v_6 = 0) → pt_X10_man_2 l D d q Γ r0 x1 x2 r0 (1 : Int32) μ_5)) : pt_X10_man_0 l D d q Γ r0 x1 x2 μ := by
  unfold pt_X10_man_0
  refine g_aload_n dX10_man_0 rfl ?_
  refine g_aload_n dX10_man_1 rfl ?_
  refine g_iload_n dX10_man_2 rfl ?_
  obtain ⟨d_1, q_2, hd_3, hc_4, h⟩ := h
  refine g_cV ca_X10_394 ob_10 hc_4 hd_3 (by decide) hr0 rfl rfl (by first | exact Nat.le_of_ble_eq_true rfl | decide) dX10_man_3 (kI (fun v_6 μ_5 hq_7 => ?_))
  have h := h v_6 μ_5 hq_7
  refine g_if_ne (tgt := 13) dX10_man_6 (by decide) (fun c_8 => ?_) (fun c_8 => ?_)
  · have h := h.1 c_8
    refine g_iload_n dX10_man_13 rfl ?_
    refine g_if_lt (tgt := 23) dX10_man_14 (by decide) (fun c_9 => ?_) (fun c_9 => ?_)
    · have h := h.1 c_9
      exact g_sub [0, 1, 2] rfl h
    · have h := h.2 c_9
      refine g_iload_n dX10_man_17 rfl ?_
      refine g_bipush (7 : Int32) dX10_man_18 rfl ?_
      refine g_icmp_le (tgt := 27) dX10_man_20 (by decide) (fun c_10 => ?_) (fun c_10 => ?_)
      · have h := h.1 c_10
        refine g_iconst (0 : Int32) dX10_man_27 rfl ?_
        exact g_sub [0, 1, 2] rfl h
      · have h := h.2 c_10
        exact g_sub [0, 1, 2] rfl h
  · have h := h.2 c_8
    refine g_iconst (1 : Int32) dX10_man_9 rfl ?_
    refine g_goto (tgt := 28) dX10_man_10 (by decide) ?_
    exact g_sub [0, 1, 2] rfl h
set_option maxRecDepth 20000 in
set_option maxHeartbeats 4000000 in
theorem bl_X10_man_1 {l : Launch} {D : gD} {d : Nat} {q : Int32 → gMem → Prop} {Γ : gC} {r0 : Nat} {x1 : Int32} {x2 : Int32} {rs0 : Nat} {μ : gMem} (hr0 : r0 < 1) (hrs0 : rs0 < 1) (h : pt_X10_man_2 l D d q Γ r0 x1 x2 rs0 (2 : Int32) μ) : pt_X10_man_1 l D d q Γ r0 x1 x2 rs0 μ := by
  unfold pt_X10_man_1
  refine g_iconst (2 : Int32) dX10_man_23 rfl ?_
  refine g_goto (tgt := 28) dX10_man_24 (by decide) ?_
  exact g_sub [0, 1, 2] rfl h
set_option maxRecDepth 20000 in
set_option maxHeartbeats 4000000 in
theorem bl_X10_man_2 {l : Launch} {D : gD} {d : Nat} {q : Int32 → gMem → Prop} {Γ : gC} {r0 : Nat} {x1 : Int32} {x2 : Int32} {rs0 : Nat} {xs1 : Int32} {μ : gMem} (hr0 : r0 < 1) (hrs0 : rs0 < 1) (h : ∀ μ_1 : gMem, μ_1 = gsI μ 10 rs0 0 xs1 → (((μ_1.1 10 r0 0) = 0) → (x2 = (0 : Int32) → ∃ j_4 : Nat, j_4 < 115 ∧ x1 = nI j_4 ∧ (q (μ_1.1 740 r0 j_4) μ_1)) ∧ (x2 = (1 : Int32) → ∃ j_5 : Nat, j_5 < 115 ∧ x1 = nI j_5 ∧ (q (μ_1.1 741 r0 j_5) μ_1)) ∧ (x2 = (2 : Int32) → ∃ j_6 : Nat, j_6 < 10 ∧ x1 = nI j_6 ∧ (q (μ_1.1 711 r0 j_6) μ_1)) ∧ (x2 = (3 : Int32) → ∃ j_7 : Nat, j_7 < 115 ∧ x1 = nI j_7 ∧ (q (μ_1.1 742 r0 j_7) μ_1)) ∧ (x2 = (4 : Int32) → ∃ j_8 : Nat, j_8 < 115 ∧ x1 = nI j_8 ∧ (q (μ_1.1 743 r0 j_8) μ_1)) ∧ (x2 = (5 : Int32) → ∃ j_9 : Nat, j_9 < 115 ∧ x1 = nI j_9 ∧ (q (μ_1.1 744 r0 j_9) μ_1)) ∧ (x2 = (6 : Int32) → ∃ j_10 : Nat, j_10 < 115 ∧ x1 = nI j_10 ∧ (q (μ_1.1 745 r0 j_10) μ_1)) ∧ ((¬ x2 = (0 : Int32) ∧ ¬ x2 = (1 : Int32) ∧ ¬ x2 = (2 : Int32) ∧ ¬ x2 = (3 : Int32) ∧ ¬ x2 = (4 : Int32) ∧ ¬ x2 = (5 : Int32) ∧ ¬ x2 = (6 : Int32)) → ∃ j_11 : Nat, j_11 < 115 ∧ x1 = nI j_11 ∧ (q (μ_1.1 746 r0 j_11) μ_1))) ∧ ((¬ (μ_1.1 10 r0 0) = 0) → q (0 : Int32) μ_1)) : pt_X10_man_2 l D d q Γ r0 x1 x2 rs0 xs1 μ := by
  unfold pt_X10_man_2
  refine g_pfI fi_10_145 hrs0 rfl rfl dX10_man_28 ?_
  obtain ⟨μ_1, eμ_1⟩ : ∃ z : gMem, z = gsI μ 10 rs0 0 xs1 := ⟨_, rfl⟩
  have h := h μ_1 eμ_1
  refine g_mem eμ_1.symm ?_
  refine g_aload_n dX10_man_31 rfl ?_
  refine g_gfI fi_10_145 hr0 dX10_man_32 ?_
  refine g_if_eq (tgt := 40) dX10_man_35 (by decide) (fun c_2 => ?_) (fun c_2 => ?_)
  · have h := h.1 c_2
    refine g_iload_n dX10_man_40 rfl ?_
    by_cases c_3_0 : x2 = (0 : Int32)
    · refine g_tableIn (off := 43) (tgt := 84) dX10_man_41 (by rw [c_3_0]; decide) (by rw [c_3_0]; decide) (by rw [c_3_0]; rfl) (by decide) ?_
      have h := h.1 c_3_0
      refine g_aload_n dX10_man_84 rfl ?_
      refine g_gfR fl_10_75 rfl hr0 dX10_man_85 ?_
      refine g_iload_n dX10_man_88 rfl ?_
      obtain ⟨j_4, hj_4, ej_4, h⟩ := h
      refine g_iald j_4 hr0 rfl hj_4 (by decide) ej_4 dX10_man_89 ?_
      exact g_iret dX10_man_90 rfl rfl ⟨_, rfl, h⟩
    by_cases c_3_1 : x2 = (1 : Int32)
    · refine g_tableIn (off := 50) (tgt := 91) dX10_man_41 (by rw [c_3_1]; decide) (by rw [c_3_1]; decide) (by rw [c_3_1]; rfl) (by decide) ?_
      have h := h.2.1 c_3_1
      refine g_aload_n dX10_man_91 rfl ?_
      refine g_gfR fl_10_78 rfl hr0 dX10_man_92 ?_
      refine g_iload_n dX10_man_95 rfl ?_
      obtain ⟨j_5, hj_5, ej_5, h⟩ := h
      refine g_iald j_5 hr0 rfl hj_5 (by decide) ej_5 dX10_man_96 ?_
      exact g_iret dX10_man_97 rfl rfl ⟨_, rfl, h⟩
    by_cases c_3_2 : x2 = (2 : Int32)
    · refine g_tableIn (off := 57) (tgt := 98) dX10_man_41 (by rw [c_3_2]; decide) (by rw [c_3_2]; decide) (by rw [c_3_2]; rfl) (by decide) ?_
      have h := h.2.2.1 c_3_2
      refine g_aload_n dX10_man_98 rfl ?_
      refine g_gfR fl_10_25 rfl hr0 dX10_man_99 ?_
      refine g_iload_n dX10_man_102 rfl ?_
      obtain ⟨j_6, hj_6, ej_6, h⟩ := h
      refine g_iald j_6 hr0 rfl hj_6 (by decide) ej_6 dX10_man_103 ?_
      exact g_iret dX10_man_104 rfl rfl ⟨_, rfl, h⟩
    by_cases c_3_3 : x2 = (3 : Int32)
    · refine g_tableIn (off := 64) (tgt := 105) dX10_man_41 (by rw [c_3_3]; decide) (by rw [c_3_3]; decide) (by rw [c_3_3]; rfl) (by decide) ?_
      have h := h.2.2.2.1 c_3_3
      refine g_aload_n dX10_man_105 rfl ?_
      refine g_gfR fl_10_81 rfl hr0 dX10_man_106 ?_
      refine g_iload_n dX10_man_109 rfl ?_
      obtain ⟨j_7, hj_7, ej_7, h⟩ := h
      refine g_iald j_7 hr0 rfl hj_7 (by decide) ej_7 dX10_man_110 ?_
      exact g_iret dX10_man_111 rfl rfl ⟨_, rfl, h⟩
    by_cases c_3_4 : x2 = (4 : Int32)
    · refine g_tableIn (off := 71) (tgt := 112) dX10_man_41 (by rw [c_3_4]; decide) (by rw [c_3_4]; decide) (by rw [c_3_4]; rfl) (by decide) ?_
      have h := h.2.2.2.2.1 c_3_4
      refine g_aload_n dX10_man_112 rfl ?_
      refine g_gfR fl_10_84 rfl hr0 dX10_man_113 ?_
      refine g_iload_n dX10_man_116 rfl ?_
      obtain ⟨j_8, hj_8, ej_8, h⟩ := h
      refine g_iald j_8 hr0 rfl hj_8 (by decide) ej_8 dX10_man_117 ?_
      exact g_iret dX10_man_118 rfl rfl ⟨_, rfl, h⟩
    by_cases c_3_5 : x2 = (5 : Int32)
    · refine g_tableIn (off := 78) (tgt := 119) dX10_man_41 (by rw [c_3_5]; decide) (by rw [c_3_5]; decide) (by rw [c_3_5]; rfl) (by decide) ?_
      have h := h.2.2.2.2.2.1 c_3_5
      refine g_aload_n dX10_man_119 rfl ?_
      refine g_gfR fl_10_87 rfl hr0 dX10_man_120 ?_
      refine g_iload_n dX10_man_123 rfl ?_
      obtain ⟨j_9, hj_9, ej_9, h⟩ := h
      refine g_iald j_9 hr0 rfl hj_9 (by decide) ej_9 dX10_man_124 ?_
      exact g_iret dX10_man_125 rfl rfl ⟨_, rfl, h⟩
    by_cases c_3_6 : x2 = (6 : Int32)
    · refine g_tableIn (off := 85) (tgt := 126) dX10_man_41 (by rw [c_3_6]; decide) (by rw [c_3_6]; decide) (by rw [c_3_6]; rfl) (by decide) ?_
      have h := h.2.2.2.2.2.2.1 c_3_6
      refine g_aload_n dX10_man_126 rfl ?_
      refine g_gfR fl_10_90 rfl hr0 dX10_man_127 ?_
      refine g_iload_n dX10_man_130 rfl ?_
      obtain ⟨j_10, hj_10, ej_10, h⟩ := h
      refine g_iald j_10 hr0 rfl hj_10 (by decide) ej_10 dX10_man_131 ?_
      exact g_iret dX10_man_132 rfl rfl ⟨_, rfl, h⟩
    have c_3_o : (x2).toInt < 0 ∨ 6 < (x2).toInt := by
      have := lv_neT c_3_0 (a := 0) rfl
      have := lv_neT c_3_1 (a := 1) rfl
      have := lv_neT c_3_2 (a := 2) rfl
      have := lv_neT c_3_3 (a := 3) rfl
      have := lv_neT c_3_4 (a := 4) rfl
      have := lv_neT c_3_5 (a := 5) rfl
      have := lv_neT c_3_6 (a := 6) rfl
      omega
    refine g_tableOut (tgt := 133) dX10_man_41 c_3_o (by decide) ?_
    have h := h.2.2.2.2.2.2.2 ⟨c_3_0, c_3_1, c_3_2, c_3_3, c_3_4, c_3_5, c_3_6⟩
    refine g_aload_n dX10_man_133 rfl ?_
    refine g_gfR fl_10_93 rfl hr0 dX10_man_134 ?_
    refine g_iload_n dX10_man_137 rfl ?_
    obtain ⟨j_11, hj_11, ej_11, h⟩ := h
    refine g_iald j_11 hr0 rfl hj_11 (by decide) ej_11 dX10_man_138 ?_
    exact g_iret dX10_man_139 rfl rfl ⟨_, rfl, h⟩
  · have h := h.2 c_2
    refine g_iconst (0 : Int32) dX10_man_38 rfl ?_
    exact g_iret dX10_man_39 rfl rfl ⟨_, rfl, h⟩
theorem en_X10_man {l : Launch} {D : gD} {d : Nat} {q : Int32 → gMem → Prop} {r0 : Nat} {x1 : Int32} {x2 : Int32} {μ : gMem} (h : ∀ Γ : gC, pt_X10_man_0 l D d q Γ r0 x1 x2 μ) : Ctr l D d yX10_man cX10_man 3 (some .int) [.ref (D.2.2 10 r0), .int x1, .int x2] μ (pI q) :=
  Ctr_of rfl (by decide) (Nat.le_of_ble_eq_true rfl) (fun Γ => g_sub [0, 1, 2] rfl (h Γ))
def pt_X10_has_0 (l : Launch) (D : gD) (d : Nat) (q : Int32 → gMem → Prop) (Γ : gC) (r0 : Nat) (x1 : Int32) (x2 : Int32) (μ : gMem) : Prop := G l D RX10 cX10_has 3 (some .int) d (pI q) Γ 0 [(0, .ref (D.2.2 10 r0)), (1, .int x1), (2, .int x2)] [] μ
set_option maxRecDepth 20000 in
set_option maxHeartbeats 4000000 in
theorem bl_X10_has_0 {l : Launch} {D : gD} {d : Nat} {q : Int32 → gMem → Prop} {Γ : gC} {r0 : Nat} {x1 : Int32} {x2 : Int32} {μ : gMem} (hr0 : r0 < 1) (h : ∀ μ_1 : gMem, μ_1 = gsI μ 10 r0 0 (0 : Int32) → ∃ (d_2 : Nat) (q_3 : Int32 → gMem → Prop), d_2 < d ∧ Ctr l D d_2 yX10_isMan cX10_isMan 2 (some .boolean) [.ref (D.2.2 10 r0), .int x1] μ_1 (pI q_3) ∧ ∀ (v_7 : Int32) (μ_6 : gMem), q_3 v_7 μ_6 → ((¬ v_7 = 0) → ((¬ x2 = 0) → ((¬ x2 = (1 : Int32)) → ((¬ x2 = (2 : Int32)) → ((¬ x2 = (3 : Int32)) → q (-1 : Int32) μ_6) ∧ ((x2 = (3 : Int32)) → ∃ j_14 : Nat, j_14 < 115 ∧ x1 = nI j_14 ∧ (q (μ_6.1 750 r0 j_14) μ_6))) ∧ ((x2 = (2 : Int32)) → ∃ j_15 : Nat, j_15 < 115 ∧ x1 = nI j_15 ∧ (q (μ_6.1 749 r0 j_15) μ_6))) ∧ ((x2 = (1 : Int32)) → ∃ j_16 : Nat, j_16 < 115 ∧ x1 = nI j_16 ∧ (q (μ_6.1 748 r0 j_16) μ_6))) ∧ ((x2 = 0) → ∃ j_17 : Nat, j_17 < 115 ∧ x1 = nI j_17 ∧ (q (μ_6.1 747 r0 j_17) μ_6))) ∧ ((v_7 = 0) → q (-1 : Int32) μ_6)) : pt_X10_has_0 l D d q Γ r0 x1 x2 μ := by
  unfold pt_X10_has_0
  refine g_aload_n dX10_has_0 rfl ?_
  refine g_iconst (0 : Int32) dX10_has_1 rfl ?_
  refine g_pfI fi_10_145 hr0 rfl rfl dX10_has_2 ?_
  obtain ⟨μ_1, eμ_1⟩ : ∃ z : gMem, z = gsI μ 10 r0 0 (0 : Int32) := ⟨_, rfl⟩
  have h := h μ_1 eμ_1
  refine g_mem eμ_1.symm ?_
  refine g_aload_n dX10_has_5 rfl ?_
  refine g_iload_n dX10_has_6 rfl ?_
  obtain ⟨d_2, q_3, hd_4, hc_5, h⟩ := h
  refine g_cV ca_X10_394 ob_10 hc_5 hd_4 (by decide) hr0 rfl rfl (by first | exact Nat.le_of_ble_eq_true rfl | decide) dX10_has_7 (kI (fun v_7 μ_6 hq_8 => ?_))
  have h := h v_7 μ_6 hq_8
  refine g_if_ne (tgt := 15) dX10_has_10 (by decide) (fun c_9 => ?_) (fun c_9 => ?_)
  · have h := h.1 c_9
    refine g_iload_n dX10_has_15 rfl ?_
    refine g_if_ne (tgt := 28) dX10_has_16 (by decide) (fun c_10 => ?_) (fun c_10 => ?_)
    · have h := h.1 c_10
      refine g_iload_n dX10_has_28 rfl ?_
      refine g_iconst (1 : Int32) dX10_has_29 rfl ?_
      refine g_icmp_ne (tgt := 42) dX10_has_30 (by decide) (fun c_11 => ?_) (fun c_11 => ?_)
      · have h := h.1 c_11
        refine g_iload_n dX10_has_42 rfl ?_
        refine g_iconst (2 : Int32) dX10_has_43 rfl ?_
        refine g_icmp_ne (tgt := 56) dX10_has_44 (by decide) (fun c_12 => ?_) (fun c_12 => ?_)
        · have h := h.1 c_12
          refine g_iload_n dX10_has_56 rfl ?_
          refine g_iconst (3 : Int32) dX10_has_57 rfl ?_
          refine g_icmp_ne (tgt := 70) dX10_has_58 (by decide) (fun c_13 => ?_) (fun c_13 => ?_)
          · have h := h.1 c_13
            refine g_iconst (-1 : Int32) dX10_has_70 rfl ?_
            exact g_iret dX10_has_71 rfl rfl ⟨_, rfl, h⟩
          · have h := h.2 c_13
            refine g_aload_n dX10_has_61 rfl ?_
            refine g_gfR fl_10_105 rfl hr0 dX10_has_62 ?_
            refine g_iload_n dX10_has_65 rfl ?_
            obtain ⟨j_14, hj_14, ej_14, h⟩ := h
            refine g_iald j_14 hr0 rfl hj_14 (by decide) ej_14 dX10_has_66 ?_
            refine g_goto (tgt := 71) dX10_has_67 (by decide) ?_
            exact g_iret dX10_has_71 rfl rfl ⟨_, rfl, h⟩
        · have h := h.2 c_12
          refine g_aload_n dX10_has_47 rfl ?_
          refine g_gfR fl_10_102 rfl hr0 dX10_has_48 ?_
          refine g_iload_n dX10_has_51 rfl ?_
          obtain ⟨j_15, hj_15, ej_15, h⟩ := h
          refine g_iald j_15 hr0 rfl hj_15 (by decide) ej_15 dX10_has_52 ?_
          refine g_goto (tgt := 71) dX10_has_53 (by decide) ?_
          exact g_iret dX10_has_71 rfl rfl ⟨_, rfl, h⟩
      · have h := h.2 c_11
        refine g_aload_n dX10_has_33 rfl ?_
        refine g_gfR fl_10_99 rfl hr0 dX10_has_34 ?_
        refine g_iload_n dX10_has_37 rfl ?_
        obtain ⟨j_16, hj_16, ej_16, h⟩ := h
        refine g_iald j_16 hr0 rfl hj_16 (by decide) ej_16 dX10_has_38 ?_
        refine g_goto (tgt := 71) dX10_has_39 (by decide) ?_
        exact g_iret dX10_has_71 rfl rfl ⟨_, rfl, h⟩
    · have h := h.2 c_10
      refine g_aload_n dX10_has_19 rfl ?_
      refine g_gfR fl_10_96 rfl hr0 dX10_has_20 ?_
      refine g_iload_n dX10_has_23 rfl ?_
      obtain ⟨j_17, hj_17, ej_17, h⟩ := h
      refine g_iald j_17 hr0 rfl hj_17 (by decide) ej_17 dX10_has_24 ?_
      refine g_goto (tgt := 71) dX10_has_25 (by decide) ?_
      exact g_iret dX10_has_71 rfl rfl ⟨_, rfl, h⟩
  · have h := h.2 c_9
    refine g_iconst (-1 : Int32) dX10_has_13 rfl ?_
    exact g_iret dX10_has_14 rfl rfl ⟨_, rfl, h⟩
theorem en_X10_has {l : Launch} {D : gD} {d : Nat} {q : Int32 → gMem → Prop} {r0 : Nat} {x1 : Int32} {x2 : Int32} {μ : gMem} (h : ∀ Γ : gC, pt_X10_has_0 l D d q Γ r0 x1 x2 μ) : Ctr l D d yX10_has cX10_has 3 (some .int) [.ref (D.2.2 10 r0), .int x1, .int x2] μ (pI q) :=
  Ctr_of rfl (by decide) (Nat.le_of_ble_eq_true rfl) (fun Γ => g_sub [0, 1, 2] rfl (h Γ))
def pt_X10_deed_0 (l : Launch) (D : gD) (d : Nat) (q : Int32 → gMem → Prop) (Γ : gC) (r0 : Nat) (x1 : Int32) (x2 : Int32) (μ : gMem) : Prop := G l D RX10 cX10_deed 3 (some .int) d (pI q) Γ 0 [(0, .ref (D.2.2 10 r0)), (1, .int x1), (2, .int x2)] [] μ
set_option maxRecDepth 20000 in
set_option maxHeartbeats 4000000 in
theorem bl_X10_deed_0 {l : Launch} {D : gD} {d : Nat} {q : Int32 → gMem → Prop} {Γ : gC} {r0 : Nat} {x1 : Int32} {x2 : Int32} {μ : gMem} (hr0 : r0 < 1) (h : ∀ μ_1 : gMem, μ_1 = gsI μ 10 r0 0 (0 : Int32) → ∃ (d_2 : Nat) (q_3 : Int32 → gMem → Prop), d_2 < d ∧ Ctr l D d_2 yX10_isDeed cX10_isDeed 2 (some .boolean) [.ref (D.2.2 10 r0), .int x1] μ_1 (pI q_3) ∧ ∀ (v_7 : Int32) (μ_6 : gMem), q_3 v_7 μ_6 → ((¬ v_7 = 0) → ((¬ x2 = 0) → ((¬ x2 = (1 : Int32)) → ((¬ x2 = (2 : Int32)) → q (-1 : Int32) μ_6) ∧ ((x2 = (2 : Int32)) → ∃ j_13 : Nat, j_13 < 12 ∧ x1 = nI j_13 ∧ (q (μ_6.1 715 r0 j_13) μ_6))) ∧ ((x2 = (1 : Int32)) → ∃ j_14 : Nat, j_14 < 12 ∧ x1 = nI j_14 ∧ (q (μ_6.1 714 r0 j_14) μ_6))) ∧ ((x2 = 0) → ∃ j_15 : Nat, j_15 < 12 ∧ x1 = nI j_15 ∧ (q (μ_6.1 713 r0 j_15) μ_6))) ∧ ((v_7 = 0) → q (-1 : Int32) μ_6)) : pt_X10_deed_0 l D d q Γ r0 x1 x2 μ := by
  unfold pt_X10_deed_0
  refine g_aload_n dX10_deed_0 rfl ?_
  refine g_iconst (0 : Int32) dX10_deed_1 rfl ?_
  refine g_pfI fi_10_145 hr0 rfl rfl dX10_deed_2 ?_
  obtain ⟨μ_1, eμ_1⟩ : ∃ z : gMem, z = gsI μ 10 r0 0 (0 : Int32) := ⟨_, rfl⟩
  have h := h μ_1 eμ_1
  refine g_mem eμ_1.symm ?_
  refine g_aload_n dX10_deed_5 rfl ?_
  refine g_iload_n dX10_deed_6 rfl ?_
  obtain ⟨d_2, q_3, hd_4, hc_5, h⟩ := h
  refine g_cV ca_X10_397 ob_10 hc_5 hd_4 (by decide) hr0 rfl rfl (by first | exact Nat.le_of_ble_eq_true rfl | decide) dX10_deed_7 (kI (fun v_7 μ_6 hq_8 => ?_))
  have h := h v_7 μ_6 hq_8
  refine g_if_ne (tgt := 15) dX10_deed_10 (by decide) (fun c_9 => ?_) (fun c_9 => ?_)
  · have h := h.1 c_9
    refine g_iload_n dX10_deed_15 rfl ?_
    refine g_if_ne (tgt := 28) dX10_deed_16 (by decide) (fun c_10 => ?_) (fun c_10 => ?_)
    · have h := h.1 c_10
      refine g_iload_n dX10_deed_28 rfl ?_
      refine g_iconst (1 : Int32) dX10_deed_29 rfl ?_
      refine g_icmp_ne (tgt := 42) dX10_deed_30 (by decide) (fun c_11 => ?_) (fun c_11 => ?_)
      · have h := h.1 c_11
        refine g_iload_n dX10_deed_42 rfl ?_
        refine g_iconst (2 : Int32) dX10_deed_43 rfl ?_
        refine g_icmp_ne (tgt := 56) dX10_deed_44 (by decide) (fun c_12 => ?_) (fun c_12 => ?_)
        · have h := h.1 c_12
          refine g_iconst (-1 : Int32) dX10_deed_56 rfl ?_
          exact g_iret dX10_deed_57 rfl rfl ⟨_, rfl, h⟩
        · have h := h.2 c_12
          refine g_aload_n dX10_deed_47 rfl ?_
          refine g_gfR fl_10_37 rfl hr0 dX10_deed_48 ?_
          refine g_iload_n dX10_deed_51 rfl ?_
          obtain ⟨j_13, hj_13, ej_13, h⟩ := h
          refine g_iald j_13 hr0 rfl hj_13 (by decide) ej_13 dX10_deed_52 ?_
          refine g_goto (tgt := 57) dX10_deed_53 (by decide) ?_
          exact g_iret dX10_deed_57 rfl rfl ⟨_, rfl, h⟩
      · have h := h.2 c_11
        refine g_aload_n dX10_deed_33 rfl ?_
        refine g_gfR fl_10_34 rfl hr0 dX10_deed_34 ?_
        refine g_iload_n dX10_deed_37 rfl ?_
        obtain ⟨j_14, hj_14, ej_14, h⟩ := h
        refine g_iald j_14 hr0 rfl hj_14 (by decide) ej_14 dX10_deed_38 ?_
        refine g_goto (tgt := 57) dX10_deed_39 (by decide) ?_
        exact g_iret dX10_deed_57 rfl rfl ⟨_, rfl, h⟩
    · have h := h.2 c_10
      refine g_aload_n dX10_deed_19 rfl ?_
      refine g_gfR fl_10_31 rfl hr0 dX10_deed_20 ?_
      refine g_iload_n dX10_deed_23 rfl ?_
      obtain ⟨j_15, hj_15, ej_15, h⟩ := h
      refine g_iald j_15 hr0 rfl hj_15 (by decide) ej_15 dX10_deed_24 ?_
      refine g_goto (tgt := 57) dX10_deed_25 (by decide) ?_
      exact g_iret dX10_deed_57 rfl rfl ⟨_, rfl, h⟩
  · have h := h.2 c_9
    refine g_iconst (-1 : Int32) dX10_deed_13 rfl ?_
    exact g_iret dX10_deed_14 rfl rfl ⟨_, rfl, h⟩
theorem en_X10_deed {l : Launch} {D : gD} {d : Nat} {q : Int32 → gMem → Prop} {r0 : Nat} {x1 : Int32} {x2 : Int32} {μ : gMem} (h : ∀ Γ : gC, pt_X10_deed_0 l D d q Γ r0 x1 x2 μ) : Ctr l D d yX10_deed cX10_deed 3 (some .int) [.ref (D.2.2 10 r0), .int x1, .int x2] μ (pI q) :=
  Ctr_of rfl (by decide) (Nat.le_of_ble_eq_true rfl) (fun Γ => g_sub [0, 1, 2] rfl (h Γ))
def pt_X10_times_0 (l : Launch) (D : gD) (d : Nat) (q : Int32 → gMem → Prop) (Γ : gC) (r0 : Nat) (x1 : Int32) (x2 : Int32) (μ : gMem) : Prop := G l D RX10 cX10_times 3 (some .int) d (pI q) Γ 0 [(0, .ref (D.2.2 10 r0)), (1, .int x1), (2, .int x2)] [] μ
set_option maxRecDepth 20000 in
set_option maxHeartbeats 4000000 in
theorem bl_X10_times_0 {l : Launch} {D : gD} {d : Nat} {q : Int32 → gMem → Prop} {Γ : gC} {r0 : Nat} {x1 : Int32} {x2 : Int32} {μ : gMem} (hr0 : r0 < 1) (h : ∀ μ_1 : gMem, μ_1 = gsI μ 10 r0 0 (0 : Int32) → ∃ (d_2 : Nat) (q_3 : Int32 → gMem → Prop), d_2 < d ∧ Ctr l D d_2 yX10_isMan cX10_isMan 2 (some .boolean) [.ref (D.2.2 10 r0), .int x1] μ_1 (pI q_3) ∧ ∀ (v_7 : Int32) (μ_6 : gMem), q_3 v_7 μ_6 → ((v_7 = 0) → q (-1 : Int32) μ_6) ∧ ((¬ v_7 = 0) → ∃ (d_10 : Nat) (q_11 : Int32 → gMem → Prop), d_10 < d ∧ Ctr l D d_10 yX10_isDeed cX10_isDeed 2 (some .boolean) [.ref (D.2.2 10 r0), .int x2] μ_6 (pI q_11) ∧ ∀ (v_15 : Int32) (μ_14 : gMem), q_11 v_15 μ_14 → ((v_15 = 0) → q (-1 : Int32) μ_14) ∧ ((¬ v_15 = 0) → ∃ j_18 : Nat, j_18 < 690 ∧ ((6 : Int32) * x1) + x2 = nI j_18 ∧ (q (μ_14.1 751 r0 j_18) μ_14)))) : pt_X10_times_0 l D d q Γ r0 x1 x2 μ := by
  unfold pt_X10_times_0
  refine g_aload_n dX10_times_0 rfl ?_
  refine g_iconst (0 : Int32) dX10_times_1 rfl ?_
  refine g_pfI fi_10_145 hr0 rfl rfl dX10_times_2 ?_
  obtain ⟨μ_1, eμ_1⟩ : ∃ z : gMem, z = gsI μ 10 r0 0 (0 : Int32) := ⟨_, rfl⟩
  have h := h μ_1 eμ_1
  refine g_mem eμ_1.symm ?_
  refine g_aload_n dX10_times_5 rfl ?_
  refine g_iload_n dX10_times_6 rfl ?_
  obtain ⟨d_2, q_3, hd_4, hc_5, h⟩ := h
  refine g_cV ca_X10_394 ob_10 hc_5 hd_4 (by decide) hr0 rfl rfl (by first | exact Nat.le_of_ble_eq_true rfl | decide) dX10_times_7 (kI (fun v_7 μ_6 hq_8 => ?_))
  have h := h v_7 μ_6 hq_8
  refine g_if_eq (tgt := 35) dX10_times_10 (by decide) (fun c_9 => ?_) (fun c_9 => ?_)
  · have h := h.1 c_9
    refine g_iconst (-1 : Int32) dX10_times_35 rfl ?_
    exact g_iret dX10_times_36 rfl rfl ⟨_, rfl, h⟩
  · have h := h.2 c_9
    refine g_aload_n dX10_times_13 rfl ?_
    refine g_iload_n dX10_times_14 rfl ?_
    obtain ⟨d_10, q_11, hd_12, hc_13, h⟩ := h
    refine g_cV ca_X10_397 ob_10 hc_13 hd_12 (by decide) hr0 rfl rfl (by first | exact Nat.le_of_ble_eq_true rfl | decide) dX10_times_15 (kI (fun v_15 μ_14 hq_16 => ?_))
    have h := h v_15 μ_14 hq_16
    refine g_if_eq (tgt := 35) dX10_times_18 (by decide) (fun c_17 => ?_) (fun c_17 => ?_)
    · have h := h.1 c_17
      refine g_iconst (-1 : Int32) dX10_times_35 rfl ?_
      exact g_iret dX10_times_36 rfl rfl ⟨_, rfl, h⟩
    · have h := h.2 c_17
      refine g_aload_n dX10_times_21 rfl ?_
      refine g_gfR fl_10_108 rfl hr0 dX10_times_22 ?_
      refine g_bipush (6 : Int32) dX10_times_25 rfl ?_
      refine g_iload_n dX10_times_27 rfl ?_
      refine g_imul dX10_times_28 ?_
      refine g_iload_n dX10_times_29 rfl ?_
      refine g_iadd dX10_times_30 ?_
      obtain ⟨j_18, hj_18, ej_18, h⟩ := h
      refine g_iald j_18 hr0 rfl hj_18 (by decide) ej_18 dX10_times_31 ?_
      refine g_goto (tgt := 36) dX10_times_32 (by decide) ?_
      exact g_iret dX10_times_36 rfl rfl ⟨_, rfl, h⟩
theorem en_X10_times {l : Launch} {D : gD} {d : Nat} {q : Int32 → gMem → Prop} {r0 : Nat} {x1 : Int32} {x2 : Int32} {μ : gMem} (h : ∀ Γ : gC, pt_X10_times_0 l D d q Γ r0 x1 x2 μ) : Ctr l D d yX10_times cX10_times 3 (some .int) [.ref (D.2.2 10 r0), .int x1, .int x2] μ (pI q) :=
  Ctr_of rfl (by decide) (Nat.le_of_ble_eq_true rfl) (fun Γ => g_sub [0, 1, 2] rfl (h Γ))
def pt_X10_law_0 (l : Launch) (D : gD) (d : Nat) (q : Int64 → gMem → Prop) (Γ : gC) (r0 : Nat) (x1 : Int32) (x2 : Int32) (μ : gMem) : Prop := G l D RX10 cX10_law 4 (some .long) d (pJ q) Γ 0 [(0, .ref (D.2.2 10 r0)), (1, .int x1), (2, .int x2)] [] μ
def pt_X10_law_1 (l : Launch) (D : gD) (d : Nat) (q : Int64 → gMem → Prop) (Γ : gC) (r0 : Nat) (x1 : Int32) (x2 : Int32) (xs0 : Int32) (xs1 : Int32) (μ : gMem) : Prop := G l D RX10 cX10_law 4 (some .long) d (pJ q) Γ 71 [(0, .ref (D.2.2 10 r0)), (1, .int x1), (2, .int x2)] [.int xs1, .int xs0] μ
set_option maxRecDepth 20000 in
set_option maxHeartbeats 4000000 in
theorem bl_X10_law_0 {l : Launch} {D : gD} {d : Nat} {q : Int64 → gMem → Prop} {Γ : gC} {r0 : Nat} {x1 : Int32} {x2 : Int32} {μ : gMem} (hr0 : r0 < 1) (h : ∀ μ_1 : gMem, μ_1 = gsI μ 10 r0 0 (0 : Int32) → ((x1 < 0) → q (-9223372036854775808 : Int64) μ_1) ∧ ((¬ x1 < 0) → (((2 : Int32) < x1) → q (-9223372036854775808 : Int64) μ_1) ∧ ((¬ (2 : Int32) < x1) → ∃ (d_4 : Nat) (q_5 : Int32 → gMem → Prop), d_4 < d ∧ Ctr l D d_4 yX10_hasLaw cX10_hasLaw 2 (some .boolean) [.ref (D.2.2 10 r0), .int x1] μ_1 (pI q_5) ∧ ∀ (v_9 : Int32) (μ_8 : gMem), q_5 v_9 μ_8 → ((v_9 = 0) → q (-9223372036854775808 : Int64) μ_8) ∧ ((¬ v_9 = 0) → ∃ (d_12 : Nat) (q_13 : Int32 → gMem → Prop), d_12 < d ∧ Ctr l D d_12 yX10_isMan cX10_isMan 2 (some .boolean) [.ref (D.2.2 10 r0), .int x2] μ_8 (pI q_13) ∧ ∀ (v_17 : Int32) (μ_16 : gMem), q_13 v_17 μ_16 → ((¬ v_17 = 0) → ∃ j_20 : Nat, j_20 < 115 ∧ x2 = nI j_20 ∧ (∃ j_21 : Nat, j_21 < 115 ∧ x2 = nI j_21 ∧ (((¬ (μ_16.1 747 r0 j_21) = (1 : Int32)) → pt_X10_law_1 l D d q Γ r0 x1 x2 (μ_16.1 748 r0 j_20) (0 : Int32) μ_16) ∧ (((μ_16.1 747 r0 j_21) = (1 : Int32)) → ∃ j_23 : Nat, j_23 < 115 ∧ x2 = nI j_23 ∧ (∃ (d_24 : Nat) (q_25 : Int32 → gMem → Prop), d_24 < d ∧ Ctr l D d_24 yX10_deedSteps cX10_deedSteps 6 (some .int) [.ref (D.2.2 10 r0), .int (0 : Int32), .int x2, .ref (D.2.2 714 r0)] μ_16 (pI q_25) ∧ ∀ (v_29 : Int32) (μ_28 : gMem), q_25 v_29 μ_28 → pt_X10_law_1 l D d q Γ r0 x1 x2 (μ_16.1 748 r0 j_20) ((μ_16.1 741 r0 j_23) + v_29) μ_28))))) ∧ ((v_17 = 0) → q (-9223372036854775808 : Int64) μ_16))))) : pt_X10_law_0 l D d q Γ r0 x1 x2 μ := by
  unfold pt_X10_law_0
  refine g_aload_n dX10_law_0 rfl ?_
  refine g_iconst (0 : Int32) dX10_law_1 rfl ?_
  refine g_pfI fi_10_145 hr0 rfl rfl dX10_law_2 ?_
  obtain ⟨μ_1, eμ_1⟩ : ∃ z : gMem, z = gsI μ 10 r0 0 (0 : Int32) := ⟨_, rfl⟩
  have h := h μ_1 eμ_1
  refine g_mem eμ_1.symm ?_
  refine g_iload_n dX10_law_5 rfl ?_
  refine g_if_lt (tgt := 30) dX10_law_6 (by decide) (fun c_2 => ?_) (fun c_2 => ?_)
  · have h := h.1 c_2
    refine g_ldc2 kc_X10_402 dX10_law_30 ?_
    exact g_lret dX10_law_33 rfl ⟨_, rfl, h⟩
  · have h := h.2 c_2
    refine g_iload_n dX10_law_9 rfl ?_
    refine g_iconst (2 : Int32) dX10_law_10 rfl ?_
    refine g_icmp_gt (tgt := 30) dX10_law_11 (by decide) (fun c_3 => ?_) (fun c_3 => ?_)
    · have h := h.1 c_3
      refine g_ldc2 kc_X10_402 dX10_law_30 ?_
      exact g_lret dX10_law_33 rfl ⟨_, rfl, h⟩
    · have h := h.2 c_3
      refine g_aload_n dX10_law_14 rfl ?_
      refine g_iload_n dX10_law_15 rfl ?_
      obtain ⟨d_4, q_5, hd_6, hc_7, h⟩ := h
      refine g_cV ca_X10_343 ob_10 hc_7 hd_6 (by decide) hr0 rfl rfl (by first | exact Nat.le_of_ble_eq_true rfl | decide) dX10_law_16 (kI (fun v_9 μ_8 hq_10 => ?_))
      have h := h v_9 μ_8 hq_10
      refine g_if_eq (tgt := 30) dX10_law_19 (by decide) (fun c_11 => ?_) (fun c_11 => ?_)
      · have h := h.1 c_11
        refine g_ldc2 kc_X10_402 dX10_law_30 ?_
        exact g_lret dX10_law_33 rfl ⟨_, rfl, h⟩
      · have h := h.2 c_11
        refine g_aload_n dX10_law_22 rfl ?_
        refine g_iload_n dX10_law_23 rfl ?_
        obtain ⟨d_12, q_13, hd_14, hc_15, h⟩ := h
        refine g_cV ca_X10_394 ob_10 hc_15 hd_14 (by decide) hr0 rfl rfl (by first | exact Nat.le_of_ble_eq_true rfl | decide) dX10_law_24 (kI (fun v_17 μ_16 hq_18 => ?_))
        have h := h v_17 μ_16 hq_18
        refine g_if_ne (tgt := 34) dX10_law_27 (by decide) (fun c_19 => ?_) (fun c_19 => ?_)
        · have h := h.1 c_19
          refine g_aload_n dX10_law_34 rfl ?_
          refine g_gfR fl_10_99 rfl hr0 dX10_law_35 ?_
          refine g_iload_n dX10_law_38 rfl ?_
          obtain ⟨j_20, hj_20, ej_20, h⟩ := h
          refine g_iald j_20 hr0 rfl hj_20 (by decide) ej_20 dX10_law_39 ?_
          refine g_aload_n dX10_law_40 rfl ?_
          refine g_gfR fl_10_96 rfl hr0 dX10_law_41 ?_
          refine g_iload_n dX10_law_44 rfl ?_
          obtain ⟨j_21, hj_21, ej_21, h⟩ := h
          refine g_iald j_21 hr0 rfl hj_21 (by decide) ej_21 dX10_law_45 ?_
          refine g_iconst (1 : Int32) dX10_law_46 rfl ?_
          refine g_icmp_ne (tgt := 70) dX10_law_47 (by decide) (fun c_22 => ?_) (fun c_22 => ?_)
          · have h := h.1 c_22
            refine g_iconst (0 : Int32) dX10_law_70 rfl ?_
            exact g_sub [0, 1, 2] rfl h
          · have h := h.2 c_22
            refine g_aload_n dX10_law_50 rfl ?_
            refine g_gfR fl_10_78 rfl hr0 dX10_law_51 ?_
            refine g_iload_n dX10_law_54 rfl ?_
            obtain ⟨j_23, hj_23, ej_23, h⟩ := h
            refine g_iald j_23 hr0 rfl hj_23 (by decide) ej_23 dX10_law_55 ?_
            refine g_aload_n dX10_law_56 rfl ?_
            refine g_iconst (0 : Int32) dX10_law_57 rfl ?_
            refine g_iload_n dX10_law_58 rfl ?_
            refine g_aload_n dX10_law_59 rfl ?_
            refine g_gfR fl_10_34 rfl hr0 dX10_law_60 ?_
            obtain ⟨d_24, q_25, hd_26, hc_27, h⟩ := h
            refine g_cV ca_X10_355 ob_10 hc_27 hd_26 (by decide) hr0 rfl rfl (by first | exact Nat.le_of_ble_eq_true rfl | decide) dX10_law_63 (kI (fun v_29 μ_28 hq_30 => ?_))
            have h := h v_29 μ_28 hq_30
            refine g_iadd dX10_law_66 ?_
            refine g_goto (tgt := 71) dX10_law_67 (by decide) ?_
            exact g_sub [0, 1, 2] rfl h
        · have h := h.2 c_19
          refine g_ldc2 kc_X10_402 dX10_law_30 ?_
          exact g_lret dX10_law_33 rfl ⟨_, rfl, h⟩
set_option maxRecDepth 20000 in
set_option maxHeartbeats 4000000 in
theorem bl_X10_law_1 {l : Launch} {D : gD} {d : Nat} {q : Int64 → gMem → Prop} {Γ : gC} {r0 : Nat} {x1 : Int32} {x2 : Int32} {xs0 : Int32} {xs1 : Int32} {μ : gMem} (hr0 : r0 < 1) (h : ∀ x3_1 : Int32, x3_1 = xs0 + xs1 → ∃ (d_2 : Nat) (q_3 : gMem → Prop), d_2 < d ∧ Ctr l D d_2 yX10_calls cX10_calls 5 none [.ref (D.2.2 10 r0), .int (0 : Int32), .int x2, .int x3_1] μ (pV q_3) ∧ ∀ (μ_6 : gMem), q_3 μ_6 → ∃ (d_9 : Nat) (q_10 : Int32 → gMem → Prop), d_9 < d ∧ Ctr l D d_9 yX10_goes cX10_goes 3 (some .boolean) [.ref (D.2.2 10 r0), .int x1] μ_6 (pI q_10) ∧ ∀ (v_14 : Int32) (μ_13 : gMem), q_10 v_14 μ_13 → ((v_14 = 0) → q (-9223372036854775808 : Int64) μ_13) ∧ ((¬ v_14 = 0) → ∃ j_17 : Nat, j_17 < 64 ∧ (0 : Int32) = nI j_17 ∧ (q (μ_13.2.1 735 r0 j_17) μ_13))) : pt_X10_law_1 l D d q Γ r0 x1 x2 xs0 xs1 μ := by
  unfold pt_X10_law_1
  refine g_iadd dX10_law_71 ?_
  refine g_istore_n dX10_law_72 (by decide) (fun x3_1 ex3_1 => g_sub (lv' := [(0, .ref (D.2.2 10 r0)), (1, .int x1), (2, .int x2), (3, .int x3_1)]) [1, 2, 3, 0] rfl ?_)
  have h := h x3_1 ex3_1
  refine g_aload_n dX10_law_73 rfl ?_
  refine g_iconst (0 : Int32) dX10_law_74 rfl ?_
  refine g_iload_n dX10_law_75 rfl ?_
  refine g_iload_n dX10_law_76 rfl ?_
  obtain ⟨d_2, q_3, hd_4, hc_5, h⟩ := h
  refine g_cV ca_X10_363 ob_10 hc_5 hd_4 (by decide) hr0 rfl rfl (by first | exact Nat.le_of_ble_eq_true rfl | decide) dX10_law_77 (kV (fun μ_6 hq_8 => ?_))
  have h := h μ_6 hq_8
  refine g_aload_n dX10_law_80 rfl ?_
  refine g_iload_n dX10_law_81 rfl ?_
  obtain ⟨d_9, q_10, hd_11, hc_12, h⟩ := h
  refine g_cV ca_X10_346 ob_10 hc_12 hd_11 (by decide) hr0 rfl rfl (by first | exact Nat.le_of_ble_eq_true rfl | decide) dX10_law_82 (kI (fun v_14 μ_13 hq_15 => ?_))
  have h := h v_14 μ_13 hq_15
  refine g_if_eq (tgt := 97) dX10_law_85 (by decide) (fun c_16 => ?_) (fun c_16 => ?_)
  · have h := h.1 c_16
    refine g_ldc2 kc_X10_402 dX10_law_97 ?_
    exact g_lret dX10_law_100 rfl ⟨_, rfl, h⟩
  · have h := h.2 c_16
    refine g_aload_n dX10_law_88 rfl ?_
    refine g_gfR fl_10_63 rfl hr0 dX10_law_89 ?_
    refine g_iconst (0 : Int32) dX10_law_92 rfl ?_
    obtain ⟨j_17, hj_17, ej_17, h⟩ := h
    refine g_lald j_17 hr0 rfl hj_17 (by decide) ej_17 dX10_law_93 ?_
    refine g_goto (tgt := 100) dX10_law_94 (by decide) ?_
    exact g_lret dX10_law_100 rfl ⟨_, rfl, h⟩
theorem en_X10_law {l : Launch} {D : gD} {d : Nat} {q : Int64 → gMem → Prop} {r0 : Nat} {x1 : Int32} {x2 : Int32} {μ : gMem} (h : ∀ Γ : gC, pt_X10_law_0 l D d q Γ r0 x1 x2 μ) : Ctr l D d yX10_law cX10_law 4 (some .long) [.ref (D.2.2 10 r0), .int x1, .int x2] μ (pJ q) :=
  Ctr_of rfl (by decide) (Nat.le_of_ble_eq_true rfl) (fun Γ => g_sub [0, 1, 2] rfl (h Γ))
def pt_X10_keepNow_0 (l : Launch) (D : gD) (d : Nat) (q : gMem → Prop) (Γ : gC) (r0 : Nat) (μ : gMem) : Prop := G l D RX10 cX10_keepNow 2 none d (pV q) Γ 0 [(0, .ref (D.2.2 10 r0))] [] μ
def pt_X10_keepNow_1 (l : Launch) (D : gD) (d : Nat) (q : gMem → Prop) (Γ : gC) (r0 : Nat) (x1 : Int32) (μ : gMem) : Prop := G l D RX10 cX10_keepNow 2 none d (pV q) Γ 11 [(0, .ref (D.2.2 10 r0)), (1, .int x1)] [] μ
def pt_X10_keepNow_2 (l : Launch) (D : gD) (d : Nat) (q : gMem → Prop) (Γ : gC) (r0 : Nat) (μ : gMem) : Prop := G l D RX10 cX10_keepNow 2 none d (pV q) Γ 45 [(0, .ref (D.2.2 10 r0))] [] μ
set_option maxRecDepth 20000 in
set_option maxHeartbeats 4000000 in
theorem bl_X10_keepNow_0 {l : Launch} {D : gD} {d : Nat} {q : gMem → Prop} {Γ : gC} {r0 : Nat} {μ : gMem} (hr0 : r0 < 1) (h : ((¬ (μ.1 10 r0 50) = (20 : Int32)) → pt_X10_keepNow_2 l D d q Γ r0 μ) ∧ (((μ.1 10 r0 50) = (20 : Int32)) → ∀ x1_2 : Int32, x1_2 = (1 : Int32) → pt_X10_keepNow_1 l D d q Γ r0 x1_2 μ)) : pt_X10_keepNow_0 l D d q Γ r0 μ := by
  unfold pt_X10_keepNow_0
  refine g_aload_n dX10_keepNow_0 rfl ?_
  refine g_gfI fi_10_305 hr0 dX10_keepNow_1 ?_
  refine g_bipush (20 : Int32) dX10_keepNow_4 rfl ?_
  refine g_icmp_ne (tgt := 45) dX10_keepNow_6 (by decide) (fun c_1 => ?_) (fun c_1 => ?_)
  · have h := h.1 c_1
    exact g_sub [0] rfl h
  · have h := h.2 c_1
    refine g_iconst (1 : Int32) dX10_keepNow_9 rfl ?_
    refine g_istore_n dX10_keepNow_10 (by decide) (fun x1_2 ex1_2 => g_sub (lv' := [(0, .ref (D.2.2 10 r0)), (1, .int x1_2)]) [1, 0] rfl ?_)
    have h := h x1_2 ex1_2
    exact g_sub [0, 1] rfl h
set_option maxRecDepth 20000 in
set_option maxHeartbeats 4000000 in
theorem bl_X10_keepNow_1 {l : Launch} {D : gD} {d : Nat} {q : gMem → Prop} {Γ : gC} {r0 : Nat} {x1 : Int32} {μ : gMem} (hr0 : r0 < 1) (h : (((20 : Int32) ≤ x1) → ∀ μ_2 : gMem, μ_2 = gsI μ 10 r0 50 ((μ.1 10 r0 50) - (1 : Int32)) → pt_X10_keepNow_2 l D d q Γ r0 μ_2) ∧ ((¬ (20 : Int32) ≤ x1) → ∃ (d_3 : Nat) (q_4 : gMem → Prop), d_3 < d ∧ Ctr l D d_3 yX10_copies cX10_copies 6 none [.ref (D.2.2 10 r0), .int (((3 : Int32) + x1) - (1 : Int32)), .int ((3 : Int32) + x1)] μ (pV q_4) ∧ ∀ (μ_7 : gMem), q_4 μ_7 → ∀ x1_10 : Int32, x1_10 = x1 + (1 : Int32) → pt_X10_keepNow_1 l D d q Γ r0 x1_10 μ_7)) : pt_X10_keepNow_1 l D d q Γ r0 x1 μ := by
  unfold pt_X10_keepNow_1
  refine g_iload_n dX10_keepNow_11 rfl ?_
  refine g_bipush (20 : Int32) dX10_keepNow_12 rfl ?_
  refine g_icmp_ge (tgt := 35) dX10_keepNow_14 (by decide) (fun c_1 => ?_) (fun c_1 => ?_)
  · have h := h.1 c_1
    refine g_aload_n dX10_keepNow_35 rfl ?_
    refine g_dup dX10_keepNow_36 rfl ?_
    refine g_gfI fi_10_305 hr0 dX10_keepNow_37 ?_
    refine g_iconst (1 : Int32) dX10_keepNow_40 rfl ?_
    refine g_isub dX10_keepNow_41 ?_
    refine g_pfI fi_10_305 hr0 rfl rfl dX10_keepNow_42 ?_
    obtain ⟨μ_2, eμ_2⟩ : ∃ z : gMem, z = gsI μ 10 r0 50 ((μ.1 10 r0 50) - (1 : Int32)) := ⟨_, rfl⟩
    have h := h μ_2 eμ_2
    refine g_mem eμ_2.symm ?_
    exact g_sub [0] rfl h
  · have h := h.2 c_1
    refine g_aload_n dX10_keepNow_17 rfl ?_
    refine g_iconst (3 : Int32) dX10_keepNow_18 rfl ?_
    refine g_iload_n dX10_keepNow_19 rfl ?_
    refine g_iadd dX10_keepNow_20 ?_
    refine g_iconst (1 : Int32) dX10_keepNow_21 rfl ?_
    refine g_isub dX10_keepNow_22 ?_
    refine g_iconst (3 : Int32) dX10_keepNow_23 rfl ?_
    refine g_iload_n dX10_keepNow_24 rfl ?_
    refine g_iadd dX10_keepNow_25 ?_
    obtain ⟨d_3, q_4, hd_5, hc_6, h⟩ := h
    refine g_cV ca_X10_387 ob_10 hc_6 hd_5 (by decide) hr0 rfl rfl (by first | exact Nat.le_of_ble_eq_true rfl | decide) dX10_keepNow_26 (kV (fun μ_7 hq_9 => ?_))
    have h := h μ_7 hq_9
    refine g_iinc dX10_keepNow_29 rfl (by decide) (fun x1_10 ex1_10 => g_sub (lv' := [(0, .ref (D.2.2 10 r0)), (1, .int x1_10)]) [1, 0] rfl ?_)
    have h := h x1_10 ex1_10
    refine g_goto (tgt := 11) dX10_keepNow_32 (by decide) ?_
    exact g_sub [0, 1] rfl h
set_option maxRecDepth 20000 in
set_option maxHeartbeats 4000000 in
theorem bl_X10_keepNow_2 {l : Launch} {D : gD} {d : Nat} {q : gMem → Prop} {Γ : gC} {r0 : Nat} {μ : gMem} (hr0 : r0 < 1) (h : ∃ (d_1 : Nat) (q_2 : gMem → Prop), d_1 < d ∧ Ctr l D d_1 yX10_copies cX10_copies 6 none [.ref (D.2.2 10 r0), .int ((3 : Int32) + (μ.1 10 r0 50)), .int (0 : Int32)] μ (pV q_2) ∧ ∀ (μ_5 : gMem), q_2 μ_5 → ∀ μ_8 : gMem, μ_8 = gsI μ_5 10 r0 50 ((μ_5.1 10 r0 50) + (1 : Int32)) → q μ_8) : pt_X10_keepNow_2 l D d q Γ r0 μ := by
  unfold pt_X10_keepNow_2
  refine g_aload_n dX10_keepNow_45 rfl ?_
  refine g_iconst (3 : Int32) dX10_keepNow_46 rfl ?_
  refine g_aload_n dX10_keepNow_47 rfl ?_
  refine g_gfI fi_10_305 hr0 dX10_keepNow_48 ?_
  refine g_iadd dX10_keepNow_51 ?_
  refine g_iconst (0 : Int32) dX10_keepNow_52 rfl ?_
  obtain ⟨d_1, q_2, hd_3, hc_4, h⟩ := h
  refine g_cV ca_X10_387 ob_10 hc_4 hd_3 (by decide) hr0 rfl rfl (by first | exact Nat.le_of_ble_eq_true rfl | decide) dX10_keepNow_53 (kV (fun μ_5 hq_7 => ?_))
  have h := h μ_5 hq_7
  refine g_aload_n dX10_keepNow_56 rfl ?_
  refine g_dup dX10_keepNow_57 rfl ?_
  refine g_gfI fi_10_305 hr0 dX10_keepNow_58 ?_
  refine g_iconst (1 : Int32) dX10_keepNow_61 rfl ?_
  refine g_iadd dX10_keepNow_62 ?_
  refine g_pfI fi_10_305 hr0 rfl rfl dX10_keepNow_63 ?_
  obtain ⟨μ_8, eμ_8⟩ : ∃ z : gMem, z = gsI μ_5 10 r0 50 ((μ_5.1 10 r0 50) + (1 : Int32)) := ⟨_, rfl⟩
  have h := h μ_8 eμ_8
  refine g_mem eμ_8.symm ?_
  exact g_vret dX10_keepNow_66 rfl ⟨rfl, h⟩
theorem en_X10_keepNow {l : Launch} {D : gD} {d : Nat} {q : gMem → Prop} {r0 : Nat} {μ : gMem} (h : ∀ Γ : gC, pt_X10_keepNow_0 l D d q Γ r0 μ) : Ctr l D d yX10_keepNow cX10_keepNow 2 none [.ref (D.2.2 10 r0)] μ (pV q) :=
  Ctr_of rfl (by decide) (Nat.le_of_ble_eq_true rfl) (fun Γ => g_sub [0] rfl (h Γ))
def pt_X10_wear_0 (l : Launch) (D : gD) (d : Nat) (q : Int32 → gMem → Prop) (Γ : gC) (r0 : Nat) (x1 : Int32) (x2 : Int32) (μ : gMem) : Prop := G l D RX10 cX10_wear 3 (some .boolean) d (pI q) Γ 0 [(0, .ref (D.2.2 10 r0)), (1, .int x1), (2, .int x2)] [] μ
def pt_X10_wear_1 (l : Launch) (D : gD) (d : Nat) (q : Int32 → gMem → Prop) (Γ : gC) (r0 : Nat) (x1 : Int32) (x2 : Int32) (xs0 : Int32) (μ : gMem) : Prop := G l D RX10 cX10_wear 3 (some .boolean) d (pI q) Γ 28 [(0, .ref (D.2.2 10 r0)), (1, .int x1), (2, .int x2)] [.int xs0] μ
def pt_X10_wear_2 (l : Launch) (D : gD) (d : Nat) (q : Int32 → gMem → Prop) (Γ : gC) (rs0 : Nat) (xs1 : Int32) (xs2 : Int32) (μ : gMem) : Prop := G l D RX10 cX10_wear 3 (some .boolean) d (pI q) Γ 52 [] [.int xs2, .int xs1, .ref (D.2.2 747 rs0)] μ
set_option maxRecDepth 20000 in
set_option maxHeartbeats 4000000 in
theorem bl_X10_wear_0 {l : Launch} {D : gD} {d : Nat} {q : Int32 → gMem → Prop} {Γ : gC} {r0 : Nat} {x1 : Int32} {x2 : Int32} {μ : gMem} (hr0 : r0 < 1) (h : ∀ μ_1 : gMem, μ_1 = gsI μ 10 r0 0 (0 : Int32) → ∃ (d_2 : Nat) (q_3 : Int32 → gMem → Prop), d_2 < d ∧ Ctr l D d_2 yX10_isMan cX10_isMan 2 (some .boolean) [.ref (D.2.2 10 r0), .int x1] μ_1 (pI q_3) ∧ ∀ (v_7 : Int32) (μ_6 : gMem), q_3 v_7 μ_6 → ((v_7 = 0) → q (0 : Int32) μ_6) ∧ ((¬ v_7 = 0) → ∃ j_10 : Nat, j_10 < 115 ∧ x1 = nI j_10 ∧ (((¬ (μ_6.1 747 r0 j_10) = (1 : Int32)) → pt_X10_wear_1 l D d q Γ r0 x1 x2 (0 : Int32) μ_6) ∧ (((μ_6.1 747 r0 j_10) = (1 : Int32)) → pt_X10_wear_1 l D d q Γ r0 x1 x2 (1 : Int32) μ_6)))) : pt_X10_wear_0 l D d q Γ r0 x1 x2 μ := by
  unfold pt_X10_wear_0
  refine g_aload_n dX10_wear_0 rfl ?_
  refine g_iconst (0 : Int32) dX10_wear_1 rfl ?_
  refine g_pfI fi_10_145 hr0 rfl rfl dX10_wear_2 ?_
  obtain ⟨μ_1, eμ_1⟩ : ∃ z : gMem, z = gsI μ 10 r0 0 (0 : Int32) := ⟨_, rfl⟩
  have h := h μ_1 eμ_1
  refine g_mem eμ_1.symm ?_
  refine g_aload_n dX10_wear_5 rfl ?_
  refine g_iload_n dX10_wear_6 rfl ?_
  obtain ⟨d_2, q_3, hd_4, hc_5, h⟩ := h
  refine g_cV ca_X10_394 ob_10 hc_5 hd_4 (by decide) hr0 rfl rfl (by first | exact Nat.le_of_ble_eq_true rfl | decide) dX10_wear_7 (kI (fun v_7 μ_6 hq_8 => ?_))
  have h := h v_7 μ_6 hq_8
  refine g_if_eq (tgt := 32) dX10_wear_10 (by decide) (fun c_9 => ?_) (fun c_9 => ?_)
  · have h := h.1 c_9
    refine g_iconst (0 : Int32) dX10_wear_32 rfl ?_
    exact g_iret dX10_wear_33 rfl rfl ⟨_, rfl, h⟩
  · have h := h.2 c_9
    refine g_aload_n dX10_wear_13 rfl ?_
    refine g_gfR fl_10_96 rfl hr0 dX10_wear_14 ?_
    refine g_iload_n dX10_wear_17 rfl ?_
    obtain ⟨j_10, hj_10, ej_10, h⟩ := h
    refine g_iald j_10 hr0 rfl hj_10 (by decide) ej_10 dX10_wear_18 ?_
    refine g_iconst (1 : Int32) dX10_wear_19 rfl ?_
    refine g_icmp_ne (tgt := 27) dX10_wear_20 (by decide) (fun c_11 => ?_) (fun c_11 => ?_)
    · have h := h.1 c_11
      refine g_iconst (0 : Int32) dX10_wear_27 rfl ?_
      exact g_sub [0, 1, 2] rfl h
    · have h := h.2 c_11
      refine g_iconst (1 : Int32) dX10_wear_23 rfl ?_
      refine g_goto (tgt := 28) dX10_wear_24 (by decide) ?_
      exact g_sub [0, 1, 2] rfl h
set_option maxRecDepth 20000 in
set_option maxHeartbeats 4000000 in
theorem bl_X10_wear_1 {l : Launch} {D : gD} {d : Nat} {q : Int32 → gMem → Prop} {Γ : gC} {r0 : Nat} {x1 : Int32} {x2 : Int32} {xs0 : Int32} {μ : gMem} (hr0 : r0 < 1) (h : ((¬ xs0 = x2) → ∃ (d_2 : Nat) (q_3 : gMem → Prop), d_2 < d ∧ Ctr l D d_2 yX10_keepNow cX10_keepNow 2 none [.ref (D.2.2 10 r0)] μ (pV q_3) ∧ ∀ (μ_6 : gMem), q_3 μ_6 → ((x2 = 0) → pt_X10_wear_2 l D d q Γ r0 x1 (0 : Int32) μ_6) ∧ ((¬ x2 = 0) → pt_X10_wear_2 l D d q Γ r0 x1 (1 : Int32) μ_6)) ∧ ((xs0 = x2) → q (0 : Int32) μ)) : pt_X10_wear_1 l D d q Γ r0 x1 x2 xs0 μ := by
  unfold pt_X10_wear_1
  refine g_iload_n dX10_wear_28 rfl ?_
  refine g_icmp_ne (tgt := 34) dX10_wear_29 (by decide) (fun c_1 => ?_) (fun c_1 => ?_)
  · have h := h.1 c_1
    refine g_aload_n dX10_wear_34 rfl ?_
    obtain ⟨d_2, q_3, hd_4, hc_5, h⟩ := h
    refine g_cV ca_X10_404 ob_10 hc_5 hd_4 (by decide) hr0 rfl rfl (by first | exact Nat.le_of_ble_eq_true rfl | decide) dX10_wear_35 (kV (fun μ_6 hq_8 => ?_))
    have h := h μ_6 hq_8
    refine g_aload_n dX10_wear_38 rfl ?_
    refine g_gfR fl_10_96 rfl hr0 dX10_wear_39 ?_
    refine g_iload_n dX10_wear_42 rfl ?_
    refine g_iload_n dX10_wear_43 rfl ?_
    refine g_if_eq (tgt := 51) dX10_wear_44 (by decide) (fun c_9 => ?_) (fun c_9 => ?_)
    · have h := h.1 c_9
      refine g_iconst (0 : Int32) dX10_wear_51 rfl ?_
      exact g_sub [] rfl h
    · have h := h.2 c_9
      refine g_iconst (1 : Int32) dX10_wear_47 rfl ?_
      refine g_goto (tgt := 52) dX10_wear_48 (by decide) ?_
      exact g_sub [] rfl h
  · have h := h.2 c_1
    refine g_iconst (0 : Int32) dX10_wear_32 rfl ?_
    exact g_iret dX10_wear_33 rfl rfl ⟨_, rfl, h⟩
set_option maxRecDepth 20000 in
set_option maxHeartbeats 4000000 in
theorem bl_X10_wear_2 {l : Launch} {D : gD} {d : Nat} {q : Int32 → gMem → Prop} {Γ : gC} {rs0 : Nat} {xs1 : Int32} {xs2 : Int32} {μ : gMem} (hrs0 : rs0 < 1) (h : ∃ j_1 : Nat, j_1 < 115 ∧ xs1 = nI j_1 ∧ (∀ μ_2 : gMem, μ_2 = gsI μ 747 rs0 j_1 xs2 → q (1 : Int32) μ_2)) : pt_X10_wear_2 l D d q Γ rs0 xs1 xs2 μ := by
  unfold pt_X10_wear_2
  obtain ⟨j_1, hj_1, ej_1, h⟩ := h
  refine g_iast j_1 hrs0 rfl hj_1 (by decide) ej_1 dX10_wear_52 ?_
  obtain ⟨μ_2, eμ_2⟩ : ∃ z : gMem, z = gsI μ 747 rs0 j_1 xs2 := ⟨_, rfl⟩
  have h := h μ_2 eμ_2
  refine g_mem eμ_2.symm ?_
  refine g_iconst (1 : Int32) dX10_wear_53 rfl ?_
  exact g_iret dX10_wear_54 rfl rfl ⟨_, rfl, h⟩
theorem en_X10_wear {l : Launch} {D : gD} {d : Nat} {q : Int32 → gMem → Prop} {r0 : Nat} {x1 : Int32} {x2 : Int32} {μ : gMem} (h : ∀ Γ : gC, pt_X10_wear_0 l D d q Γ r0 x1 x2 μ) : Ctr l D d yX10_wear cX10_wear 3 (some .boolean) [.ref (D.2.2 10 r0), .int x1, .int x2] μ (pI q) :=
  Ctr_of rfl (by decide) (Nat.le_of_ble_eq_true rfl) (fun Γ => g_sub [0, 1, 2] rfl (h Γ))
def pt_X10_goal_0 (l : Launch) (D : gD) (d : Nat) (q : Int32 → gMem → Prop) (Γ : gC) (r0 : Nat) (x1 : Int32) (x2 : Int32) (μ : gMem) : Prop := G l D RX10 cX10_goal 3 (some .boolean) d (pI q) Γ 0 [(0, .ref (D.2.2 10 r0)), (1, .int x1), (2, .int x2)] [] μ
set_option maxRecDepth 20000 in
set_option maxHeartbeats 4000000 in
theorem bl_X10_goal_0 {l : Launch} {D : gD} {d : Nat} {q : Int32 → gMem → Prop} {Γ : gC} {r0 : Nat} {x1 : Int32} {x2 : Int32} {μ : gMem} (hr0 : r0 < 1) (h : ∀ μ_1 : gMem, μ_1 = gsI μ 10 r0 0 (0 : Int32) → ∃ (d_2 : Nat) (q_3 : Int32 → gMem → Prop), d_2 < d ∧ Ctr l D d_2 yX10_isMan cX10_isMan 2 (some .boolean) [.ref (D.2.2 10 r0), .int x1] μ_1 (pI q_3) ∧ ∀ (v_7 : Int32) (μ_6 : gMem), q_3 v_7 μ_6 → ((v_7 = 0) → q (0 : Int32) μ_6) ∧ ((¬ v_7 = 0) → ((x2 < 0) → q (0 : Int32) μ_6) ∧ ((¬ x2 < 0) → (((99 : Int32) < x2) → q (0 : Int32) μ_6) ∧ ((¬ (99 : Int32) < x2) → ∃ j_12 : Nat, j_12 < 115 ∧ x1 = nI j_12 ∧ (((¬ (μ_6.1 740 r0 j_12) = x2) → ∃ (d_14 : Nat) (q_15 : gMem → Prop), d_14 < d ∧ Ctr l D d_14 yX10_keepNow cX10_keepNow 2 none [.ref (D.2.2 10 r0)] μ_6 (pV q_15) ∧ ∀ (μ_18 : gMem), q_15 μ_18 → ∃ j_21 : Nat, j_21 < 115 ∧ x1 = nI j_21 ∧ (∀ μ_22 : gMem, μ_22 = gsI μ_18 740 r0 j_21 x2 → q (1 : Int32) μ_22)) ∧ (((μ_6.1 740 r0 j_12) = x2) → q (0 : Int32) μ_6)))))) : pt_X10_goal_0 l D d q Γ r0 x1 x2 μ := by
  unfold pt_X10_goal_0
  refine g_aload_n dX10_goal_0 rfl ?_
  refine g_iconst (0 : Int32) dX10_goal_1 rfl ?_
  refine g_pfI fi_10_145 hr0 rfl rfl dX10_goal_2 ?_
  obtain ⟨μ_1, eμ_1⟩ : ∃ z : gMem, z = gsI μ 10 r0 0 (0 : Int32) := ⟨_, rfl⟩
  have h := h μ_1 eμ_1
  refine g_mem eμ_1.symm ?_
  refine g_aload_n dX10_goal_5 rfl ?_
  refine g_iload_n dX10_goal_6 rfl ?_
  obtain ⟨d_2, q_3, hd_4, hc_5, h⟩ := h
  refine g_cV ca_X10_394 ob_10 hc_5 hd_4 (by decide) hr0 rfl rfl (by first | exact Nat.le_of_ble_eq_true rfl | decide) dX10_goal_7 (kI (fun v_7 μ_6 hq_8 => ?_))
  have h := h v_7 μ_6 hq_8
  refine g_if_eq (tgt := 33) dX10_goal_10 (by decide) (fun c_9 => ?_) (fun c_9 => ?_)
  · have h := h.1 c_9
    refine g_iconst (0 : Int32) dX10_goal_33 rfl ?_
    exact g_iret dX10_goal_34 rfl rfl ⟨_, rfl, h⟩
  · have h := h.2 c_9
    refine g_iload_n dX10_goal_13 rfl ?_
    refine g_if_lt (tgt := 33) dX10_goal_14 (by decide) (fun c_10 => ?_) (fun c_10 => ?_)
    · have h := h.1 c_10
      refine g_iconst (0 : Int32) dX10_goal_33 rfl ?_
      exact g_iret dX10_goal_34 rfl rfl ⟨_, rfl, h⟩
    · have h := h.2 c_10
      refine g_iload_n dX10_goal_17 rfl ?_
      refine g_bipush (99 : Int32) dX10_goal_18 rfl ?_
      refine g_icmp_gt (tgt := 33) dX10_goal_20 (by decide) (fun c_11 => ?_) (fun c_11 => ?_)
      · have h := h.1 c_11
        refine g_iconst (0 : Int32) dX10_goal_33 rfl ?_
        exact g_iret dX10_goal_34 rfl rfl ⟨_, rfl, h⟩
      · have h := h.2 c_11
        refine g_aload_n dX10_goal_23 rfl ?_
        refine g_gfR fl_10_75 rfl hr0 dX10_goal_24 ?_
        refine g_iload_n dX10_goal_27 rfl ?_
        obtain ⟨j_12, hj_12, ej_12, h⟩ := h
        refine g_iald j_12 hr0 rfl hj_12 (by decide) ej_12 dX10_goal_28 ?_
        refine g_iload_n dX10_goal_29 rfl ?_
        refine g_icmp_ne (tgt := 35) dX10_goal_30 (by decide) (fun c_13 => ?_) (fun c_13 => ?_)
        · have h := h.1 c_13
          refine g_aload_n dX10_goal_35 rfl ?_
          obtain ⟨d_14, q_15, hd_16, hc_17, h⟩ := h
          refine g_cV ca_X10_404 ob_10 hc_17 hd_16 (by decide) hr0 rfl rfl (by first | exact Nat.le_of_ble_eq_true rfl | decide) dX10_goal_36 (kV (fun μ_18 hq_20 => ?_))
          have h := h μ_18 hq_20
          refine g_aload_n dX10_goal_39 rfl ?_
          refine g_gfR fl_10_75 rfl hr0 dX10_goal_40 ?_
          refine g_iload_n dX10_goal_43 rfl ?_
          refine g_iload_n dX10_goal_44 rfl ?_
          obtain ⟨j_21, hj_21, ej_21, h⟩ := h
          refine g_iast j_21 hr0 rfl hj_21 (by decide) ej_21 dX10_goal_45 ?_
          obtain ⟨μ_22, eμ_22⟩ : ∃ z : gMem, z = gsI μ_18 740 r0 j_21 x2 := ⟨_, rfl⟩
          have h := h μ_22 eμ_22
          refine g_mem eμ_22.symm ?_
          refine g_iconst (1 : Int32) dX10_goal_46 rfl ?_
          exact g_iret dX10_goal_47 rfl rfl ⟨_, rfl, h⟩
        · have h := h.2 c_13
          refine g_iconst (0 : Int32) dX10_goal_33 rfl ?_
          exact g_iret dX10_goal_34 rfl rfl ⟨_, rfl, h⟩
theorem en_X10_goal {l : Launch} {D : gD} {d : Nat} {q : Int32 → gMem → Prop} {r0 : Nat} {x1 : Int32} {x2 : Int32} {μ : gMem} (h : ∀ Γ : gC, pt_X10_goal_0 l D d q Γ r0 x1 x2 μ) : Ctr l D d yX10_goal cX10_goal 3 (some .boolean) [.ref (D.2.2 10 r0), .int x1, .int x2] μ (pI q) :=
  Ctr_of rfl (by decide) (Nat.le_of_ble_eq_true rfl) (fun Γ => g_sub [0, 1, 2] rfl (h Γ))
def pt_X10_plan_0 (l : Launch) (D : gD) (d : Nat) (q : Int32 → gMem → Prop) (Γ : gC) (r0 : Nat) (x1 : Int32) (x2 : Int32) (x3 : Int32) (μ : gMem) : Prop := G l D RX10 cX10_plan 4 (some .boolean) d (pI q) Γ 0 [(0, .ref (D.2.2 10 r0)), (1, .int x1), (2, .int x2), (3, .int x3)] [] μ
set_option maxRecDepth 20000 in
set_option maxHeartbeats 4000000 in
theorem bl_X10_plan_0 {l : Launch} {D : gD} {d : Nat} {q : Int32 → gMem → Prop} {Γ : gC} {r0 : Nat} {x1 : Int32} {x2 : Int32} {x3 : Int32} {μ : gMem} (hr0 : r0 < 1) (h : ∀ μ_1 : gMem, μ_1 = gsI μ 10 r0 0 (0 : Int32) → ∃ (d_2 : Nat) (q_3 : Int32 → gMem → Prop), d_2 < d ∧ Ctr l D d_2 yX10_isMan cX10_isMan 2 (some .boolean) [.ref (D.2.2 10 r0), .int x1] μ_1 (pI q_3) ∧ ∀ (v_7 : Int32) (μ_6 : gMem), q_3 v_7 μ_6 → ((v_7 = 0) → q (0 : Int32) μ_6) ∧ ((¬ v_7 = 0) → ∃ (d_10 : Nat) (q_11 : Int32 → gMem → Prop), d_10 < d ∧ Ctr l D d_10 yX10_isDeed cX10_isDeed 2 (some .boolean) [.ref (D.2.2 10 r0), .int x2] μ_6 (pI q_11) ∧ ∀ (v_15 : Int32) (μ_14 : gMem), q_11 v_15 μ_14 → ((v_15 = 0) → q (0 : Int32) μ_14) ∧ ((¬ v_15 = 0) → ((x3 < 0) → q (0 : Int32) μ_14) ∧ ((¬ x3 < 0) → (((9 : Int32) < x3) → q (0 : Int32) μ_14) ∧ ((¬ (9 : Int32) < x3) → ∃ j_20 : Nat, j_20 < 690 ∧ ((6 : Int32) * x1) + x2 = nI j_20 ∧ (((¬ (μ_14.1 751 r0 j_20) = x3) → ∃ (d_22 : Nat) (q_23 : gMem → Prop), d_22 < d ∧ Ctr l D d_22 yX10_keepNow cX10_keepNow 2 none [.ref (D.2.2 10 r0)] μ_14 (pV q_23) ∧ ∀ (μ_26 : gMem), q_23 μ_26 → ∃ j_29 : Nat, j_29 < 690 ∧ ((6 : Int32) * x1) + x2 = nI j_29 ∧ (∀ μ_30 : gMem, μ_30 = gsI μ_26 751 r0 j_29 x3 → q (1 : Int32) μ_30)) ∧ (((μ_14.1 751 r0 j_20) = x3) → q (0 : Int32) μ_14))))))) : pt_X10_plan_0 l D d q Γ r0 x1 x2 x3 μ := by
  unfold pt_X10_plan_0
  refine g_aload_n dX10_plan_0 rfl ?_
  refine g_iconst (0 : Int32) dX10_plan_1 rfl ?_
  refine g_pfI fi_10_145 hr0 rfl rfl dX10_plan_2 ?_
  obtain ⟨μ_1, eμ_1⟩ : ∃ z : gMem, z = gsI μ 10 r0 0 (0 : Int32) := ⟨_, rfl⟩
  have h := h μ_1 eμ_1
  refine g_mem eμ_1.symm ?_
  refine g_aload_n dX10_plan_5 rfl ?_
  refine g_iload_n dX10_plan_6 rfl ?_
  obtain ⟨d_2, q_3, hd_4, hc_5, h⟩ := h
  refine g_cV ca_X10_394 ob_10 hc_5 hd_4 (by decide) hr0 rfl rfl (by first | exact Nat.le_of_ble_eq_true rfl | decide) dX10_plan_7 (kI (fun v_7 μ_6 hq_8 => ?_))
  have h := h v_7 μ_6 hq_8
  refine g_if_eq (tgt := 46) dX10_plan_10 (by decide) (fun c_9 => ?_) (fun c_9 => ?_)
  · have h := h.1 c_9
    refine g_iconst (0 : Int32) dX10_plan_46 rfl ?_
    exact g_iret dX10_plan_47 rfl rfl ⟨_, rfl, h⟩
  · have h := h.2 c_9
    refine g_aload_n dX10_plan_13 rfl ?_
    refine g_iload_n dX10_plan_14 rfl ?_
    obtain ⟨d_10, q_11, hd_12, hc_13, h⟩ := h
    refine g_cV ca_X10_397 ob_10 hc_13 hd_12 (by decide) hr0 rfl rfl (by first | exact Nat.le_of_ble_eq_true rfl | decide) dX10_plan_15 (kI (fun v_15 μ_14 hq_16 => ?_))
    have h := h v_15 μ_14 hq_16
    refine g_if_eq (tgt := 46) dX10_plan_18 (by decide) (fun c_17 => ?_) (fun c_17 => ?_)
    · have h := h.1 c_17
      refine g_iconst (0 : Int32) dX10_plan_46 rfl ?_
      exact g_iret dX10_plan_47 rfl rfl ⟨_, rfl, h⟩
    · have h := h.2 c_17
      refine g_iload_n dX10_plan_21 rfl ?_
      refine g_if_lt (tgt := 46) dX10_plan_22 (by decide) (fun c_18 => ?_) (fun c_18 => ?_)
      · have h := h.1 c_18
        refine g_iconst (0 : Int32) dX10_plan_46 rfl ?_
        exact g_iret dX10_plan_47 rfl rfl ⟨_, rfl, h⟩
      · have h := h.2 c_18
        refine g_iload_n dX10_plan_25 rfl ?_
        refine g_bipush (9 : Int32) dX10_plan_26 rfl ?_
        refine g_icmp_gt (tgt := 46) dX10_plan_28 (by decide) (fun c_19 => ?_) (fun c_19 => ?_)
        · have h := h.1 c_19
          refine g_iconst (0 : Int32) dX10_plan_46 rfl ?_
          exact g_iret dX10_plan_47 rfl rfl ⟨_, rfl, h⟩
        · have h := h.2 c_19
          refine g_aload_n dX10_plan_31 rfl ?_
          refine g_gfR fl_10_108 rfl hr0 dX10_plan_32 ?_
          refine g_bipush (6 : Int32) dX10_plan_35 rfl ?_
          refine g_iload_n dX10_plan_37 rfl ?_
          refine g_imul dX10_plan_38 ?_
          refine g_iload_n dX10_plan_39 rfl ?_
          refine g_iadd dX10_plan_40 ?_
          obtain ⟨j_20, hj_20, ej_20, h⟩ := h
          refine g_iald j_20 hr0 rfl hj_20 (by decide) ej_20 dX10_plan_41 ?_
          refine g_iload_n dX10_plan_42 rfl ?_
          refine g_icmp_ne (tgt := 48) dX10_plan_43 (by decide) (fun c_21 => ?_) (fun c_21 => ?_)
          · have h := h.1 c_21
            refine g_aload_n dX10_plan_48 rfl ?_
            obtain ⟨d_22, q_23, hd_24, hc_25, h⟩ := h
            refine g_cV ca_X10_404 ob_10 hc_25 hd_24 (by decide) hr0 rfl rfl (by first | exact Nat.le_of_ble_eq_true rfl | decide) dX10_plan_49 (kV (fun μ_26 hq_28 => ?_))
            have h := h μ_26 hq_28
            refine g_aload_n dX10_plan_52 rfl ?_
            refine g_gfR fl_10_108 rfl hr0 dX10_plan_53 ?_
            refine g_bipush (6 : Int32) dX10_plan_56 rfl ?_
            refine g_iload_n dX10_plan_58 rfl ?_
            refine g_imul dX10_plan_59 ?_
            refine g_iload_n dX10_plan_60 rfl ?_
            refine g_iadd dX10_plan_61 ?_
            refine g_iload_n dX10_plan_62 rfl ?_
            obtain ⟨j_29, hj_29, ej_29, h⟩ := h
            refine g_iast j_29 hr0 rfl hj_29 (by decide) ej_29 dX10_plan_63 ?_
            obtain ⟨μ_30, eμ_30⟩ : ∃ z : gMem, z = gsI μ_26 751 r0 j_29 x3 := ⟨_, rfl⟩
            have h := h μ_30 eμ_30
            refine g_mem eμ_30.symm ?_
            refine g_iconst (1 : Int32) dX10_plan_64 rfl ?_
            exact g_iret dX10_plan_65 rfl rfl ⟨_, rfl, h⟩
          · have h := h.2 c_21
            refine g_iconst (0 : Int32) dX10_plan_46 rfl ?_
            exact g_iret dX10_plan_47 rfl rfl ⟨_, rfl, h⟩
theorem en_X10_plan {l : Launch} {D : gD} {d : Nat} {q : Int32 → gMem → Prop} {r0 : Nat} {x1 : Int32} {x2 : Int32} {x3 : Int32} {μ : gMem} (h : ∀ Γ : gC, pt_X10_plan_0 l D d q Γ r0 x1 x2 x3 μ) : Ctr l D d yX10_plan cX10_plan 4 (some .boolean) [.ref (D.2.2 10 r0), .int x1, .int x2, .int x3] μ (pI q) :=
  Ctr_of rfl (by decide) (Nat.le_of_ble_eq_true rfl) (fun Γ => g_sub [0, 1, 2, 3] rfl (h Γ))
def pt_X10_lend_0 (l : Launch) (D : gD) (d : Nat) (q : Int32 → gMem → Prop) (Γ : gC) (r0 : Nat) (x1 : Int32) (x2 : Int32) (μ : gMem) : Prop := G l D RX10 cX10_lend 3 (some .int) d (pI q) Γ 0 [(0, .ref (D.2.2 10 r0)), (1, .int x1), (2, .int x2)] [] μ
set_option maxRecDepth 20000 in
set_option maxHeartbeats 4000000 in
theorem bl_X10_lend_0 {l : Launch} {D : gD} {d : Nat} {q : Int32 → gMem → Prop} {Γ : gC} {r0 : Nat} {x1 : Int32} {x2 : Int32} {μ : gMem} (hr0 : r0 < 1) (h : ∀ μ_1 : gMem, μ_1 = gsI μ 10 r0 0 (0 : Int32) → ∃ (d_2 : Nat) (q_3 : Int32 → gMem → Prop), d_2 < d ∧ Ctr l D d_2 yX10_isMan cX10_isMan 2 (some .boolean) [.ref (D.2.2 10 r0), .int x1] μ_1 (pI q_3) ∧ ∀ (v_7 : Int32) (μ_6 : gMem), q_3 v_7 μ_6 → ((v_7 = 0) → q (-1 : Int32) μ_6) ∧ ((¬ v_7 = 0) → ((x2 < (1 : Int32)) → q (-1 : Int32) μ_6) ∧ ((¬ x2 < (1 : Int32)) → (((99 : Int32) < x2) → q (-1 : Int32) μ_6) ∧ ((¬ (99 : Int32) < x2) → ∃ j_12 : Nat, j_12 < 115 ∧ x1 = nI j_12 ∧ (((((μ_6.1 748 r0 j_12) + x2) ≤ (999 : Int32)) → ∃ (d_14 : Nat) (q_15 : gMem → Prop), d_14 < d ∧ Ctr l D d_14 yX10_keepNow cX10_keepNow 2 none [.ref (D.2.2 10 r0)] μ_6 (pV q_15) ∧ ∀ (μ_18 : gMem), q_15 μ_18 → ∃ j_21 : Nat, j_21 < 115 ∧ x1 = nI j_21 ∧ (∃ j_22 : Nat, j_22 < 115 ∧ x1 = nI j_22 ∧ (∀ μ_23 : gMem, μ_23 = gsI μ_18 748 r0 j_22 ((μ_18.1 748 r0 j_21) + x2) → ∃ j_24 : Nat, j_24 < 115 ∧ x1 = nI j_24 ∧ (q (μ_23.1 748 r0 j_24) μ_23)))) ∧ ((¬ ((μ_6.1 748 r0 j_12) + x2) ≤ (999 : Int32)) → q (-1 : Int32) μ_6)))))) : pt_X10_lend_0 l D d q Γ r0 x1 x2 μ := by
  unfold pt_X10_lend_0
  refine g_aload_n dX10_lend_0 rfl ?_
  refine g_iconst (0 : Int32) dX10_lend_1 rfl ?_
  refine g_pfI fi_10_145 hr0 rfl rfl dX10_lend_2 ?_
  obtain ⟨μ_1, eμ_1⟩ : ∃ z : gMem, z = gsI μ 10 r0 0 (0 : Int32) := ⟨_, rfl⟩
  have h := h μ_1 eμ_1
  refine g_mem eμ_1.symm ?_
  refine g_aload_n dX10_lend_5 rfl ?_
  refine g_iload_n dX10_lend_6 rfl ?_
  obtain ⟨d_2, q_3, hd_4, hc_5, h⟩ := h
  refine g_cV ca_X10_394 ob_10 hc_5 hd_4 (by decide) hr0 rfl rfl (by first | exact Nat.le_of_ble_eq_true rfl | decide) dX10_lend_7 (kI (fun v_7 μ_6 hq_8 => ?_))
  have h := h v_7 μ_6 hq_8
  refine g_if_eq (tgt := 38) dX10_lend_10 (by decide) (fun c_9 => ?_) (fun c_9 => ?_)
  · have h := h.1 c_9
    refine g_iconst (-1 : Int32) dX10_lend_38 rfl ?_
    exact g_iret dX10_lend_39 rfl rfl ⟨_, rfl, h⟩
  · have h := h.2 c_9
    refine g_iload_n dX10_lend_13 rfl ?_
    refine g_iconst (1 : Int32) dX10_lend_14 rfl ?_
    refine g_icmp_lt (tgt := 38) dX10_lend_15 (by decide) (fun c_10 => ?_) (fun c_10 => ?_)
    · have h := h.1 c_10
      refine g_iconst (-1 : Int32) dX10_lend_38 rfl ?_
      exact g_iret dX10_lend_39 rfl rfl ⟨_, rfl, h⟩
    · have h := h.2 c_10
      refine g_iload_n dX10_lend_18 rfl ?_
      refine g_bipush (99 : Int32) dX10_lend_19 rfl ?_
      refine g_icmp_gt (tgt := 38) dX10_lend_21 (by decide) (fun c_11 => ?_) (fun c_11 => ?_)
      · have h := h.1 c_11
        refine g_iconst (-1 : Int32) dX10_lend_38 rfl ?_
        exact g_iret dX10_lend_39 rfl rfl ⟨_, rfl, h⟩
      · have h := h.2 c_11
        refine g_aload_n dX10_lend_24 rfl ?_
        refine g_gfR fl_10_99 rfl hr0 dX10_lend_25 ?_
        refine g_iload_n dX10_lend_28 rfl ?_
        obtain ⟨j_12, hj_12, ej_12, h⟩ := h
        refine g_iald j_12 hr0 rfl hj_12 (by decide) ej_12 dX10_lend_29 ?_
        refine g_iload_n dX10_lend_30 rfl ?_
        refine g_iadd dX10_lend_31 ?_
        refine g_sipush (999 : Int32) dX10_lend_32 rfl ?_
        refine g_icmp_le (tgt := 40) dX10_lend_35 (by decide) (fun c_13 => ?_) (fun c_13 => ?_)
        · have h := h.1 c_13
          refine g_aload_n dX10_lend_40 rfl ?_
          obtain ⟨d_14, q_15, hd_16, hc_17, h⟩ := h
          refine g_cV ca_X10_404 ob_10 hc_17 hd_16 (by decide) hr0 rfl rfl (by first | exact Nat.le_of_ble_eq_true rfl | decide) dX10_lend_41 (kV (fun μ_18 hq_20 => ?_))
          have h := h μ_18 hq_20
          refine g_aload_n dX10_lend_44 rfl ?_
          refine g_gfR fl_10_99 rfl hr0 dX10_lend_45 ?_
          refine g_iload_n dX10_lend_48 rfl ?_
          refine g_dup2 dX10_lend_49 rfl rfl ?_
          obtain ⟨j_21, hj_21, ej_21, h⟩ := h
          refine g_iald j_21 hr0 rfl hj_21 (by decide) ej_21 dX10_lend_50 ?_
          refine g_iload_n dX10_lend_51 rfl ?_
          refine g_iadd dX10_lend_52 ?_
          obtain ⟨j_22, hj_22, ej_22, h⟩ := h
          refine g_iast j_22 hr0 rfl hj_22 (by decide) ej_22 dX10_lend_53 ?_
          obtain ⟨μ_23, eμ_23⟩ : ∃ z : gMem, z = gsI μ_18 748 r0 j_22 ((μ_18.1 748 r0 j_21) + x2) := ⟨_, rfl⟩
          have h := h μ_23 eμ_23
          refine g_mem eμ_23.symm ?_
          refine g_aload_n dX10_lend_54 rfl ?_
          refine g_gfR fl_10_99 rfl hr0 dX10_lend_55 ?_
          refine g_iload_n dX10_lend_58 rfl ?_
          obtain ⟨j_24, hj_24, ej_24, h⟩ := h
          refine g_iald j_24 hr0 rfl hj_24 (by decide) ej_24 dX10_lend_59 ?_
          exact g_iret dX10_lend_60 rfl rfl ⟨_, rfl, h⟩
        · have h := h.2 c_13
          refine g_iconst (-1 : Int32) dX10_lend_38 rfl ?_
          exact g_iret dX10_lend_39 rfl rfl ⟨_, rfl, h⟩
theorem en_X10_lend {l : Launch} {D : gD} {d : Nat} {q : Int32 → gMem → Prop} {r0 : Nat} {x1 : Int32} {x2 : Int32} {μ : gMem} (h : ∀ Γ : gC, pt_X10_lend_0 l D d q Γ r0 x1 x2 μ) : Ctr l D d yX10_lend cX10_lend 3 (some .int) [.ref (D.2.2 10 r0), .int x1, .int x2] μ (pI q) :=
  Ctr_of rfl (by decide) (Nat.le_of_ble_eq_true rfl) (fun Γ => g_sub [0, 1, 2] rfl (h Γ))
def pt_X10_go_0 (l : Launch) (D : gD) (d : Nat) (q : Int32 → gMem → Prop) (Γ : gC) (r0 : Nat) (x1 : Int32) (μ : gMem) : Prop := G l D RX10 cX10_go 3 (some .int) d (pI q) Γ 0 [(0, .ref (D.2.2 10 r0)), (1, .int x1)] [] μ
def pt_X10_go_1 (l : Launch) (D : gD) (d : Nat) (q : Int32 → gMem → Prop) (Γ : gC) (r0 : Nat) (x1 : Int32) (μ : gMem) : Prop := G l D RX10 cX10_go 3 (some .int) d (pI q) Γ 40 [(0, .ref (D.2.2 10 r0)), (1, .int x1)] [] μ
def pt_X10_go_2 (l : Launch) (D : gD) (d : Nat) (q : Int32 → gMem → Prop) (Γ : gC) (r0 : Nat) (x1 : Int32) (x2 : Int32) (μ : gMem) : Prop := G l D RX10 cX10_go 3 (some .int) d (pI q) Γ 42 [(0, .ref (D.2.2 10 r0)), (1, .int x1), (2, .int x2)] [] μ
set_option maxRecDepth 20000 in
set_option maxHeartbeats 4000000 in
theorem bl_X10_go_0 {l : Launch} {D : gD} {d : Nat} {q : Int32 → gMem → Prop} {Γ : gC} {r0 : Nat} {x1 : Int32} {μ : gMem} (hr0 : r0 < 1) (h : ∀ μ_1 : gMem, μ_1 = gsI μ 10 r0 0 (0 : Int32) → ((x1 < 0) → q (-1 : Int32) μ_1) ∧ ((¬ x1 < 0) → (((99 : Int32) < x1) → q (-1 : Int32) μ_1) ∧ ((¬ (99 : Int32) < x1) → ∃ j_4 : Nat, j_4 < 23 ∧ (0 : Int32) = nI j_4 ∧ (((((μ_1.1 737 r0 j_4) + x1) ≤ (9900 : Int32)) → ((x1 ≤ 0) → pt_X10_go_1 l D d q Γ r0 x1 μ_1) ∧ ((¬ x1 ≤ 0) → ∀ μ_7 : gMem, μ_7 = gsI μ_1 10 r0 50 (0 : Int32) → pt_X10_go_1 l D d q Γ r0 x1 μ_7)) ∧ ((¬ ((μ_1.1 737 r0 j_4) + x1) ≤ (9900 : Int32)) → q (-1 : Int32) μ_1))))) : pt_X10_go_0 l D d q Γ r0 x1 μ := by
  unfold pt_X10_go_0
  refine g_aload_n dX10_go_0 rfl ?_
  refine g_iconst (0 : Int32) dX10_go_1 rfl ?_
  refine g_pfI fi_10_145 hr0 rfl rfl dX10_go_2 ?_
  obtain ⟨μ_1, eμ_1⟩ : ∃ z : gMem, z = gsI μ 10 r0 0 (0 : Int32) := ⟨_, rfl⟩
  have h := h μ_1 eμ_1
  refine g_mem eμ_1.symm ?_
  refine g_iload_n dX10_go_5 rfl ?_
  refine g_if_lt (tgt := 29) dX10_go_6 (by decide) (fun c_2 => ?_) (fun c_2 => ?_)
  · have h := h.1 c_2
    refine g_iconst (-1 : Int32) dX10_go_29 rfl ?_
    exact g_iret dX10_go_30 rfl rfl ⟨_, rfl, h⟩
  · have h := h.2 c_2
    refine g_iload_n dX10_go_9 rfl ?_
    refine g_bipush (99 : Int32) dX10_go_10 rfl ?_
    refine g_icmp_gt (tgt := 29) dX10_go_12 (by decide) (fun c_3 => ?_) (fun c_3 => ?_)
    · have h := h.1 c_3
      refine g_iconst (-1 : Int32) dX10_go_29 rfl ?_
      exact g_iret dX10_go_30 rfl rfl ⟨_, rfl, h⟩
    · have h := h.2 c_3
      refine g_aload_n dX10_go_15 rfl ?_
      refine g_gfR fl_10_66 rfl hr0 dX10_go_16 ?_
      refine g_iconst (0 : Int32) dX10_go_19 rfl ?_
      obtain ⟨j_4, hj_4, ej_4, h⟩ := h
      refine g_iald j_4 hr0 rfl hj_4 (by decide) ej_4 dX10_go_20 ?_
      refine g_iload_n dX10_go_21 rfl ?_
      refine g_iadd dX10_go_22 ?_
      refine g_sipush (9900 : Int32) dX10_go_23 rfl ?_
      refine g_icmp_le (tgt := 31) dX10_go_26 (by decide) (fun c_5 => ?_) (fun c_5 => ?_)
      · have h := h.1 c_5
        refine g_iload_n dX10_go_31 rfl ?_
        refine g_if_le (tgt := 40) dX10_go_32 (by decide) (fun c_6 => ?_) (fun c_6 => ?_)
        · have h := h.1 c_6
          exact g_sub [0, 1] rfl h
        · have h := h.2 c_6
          refine g_aload_n dX10_go_35 rfl ?_
          refine g_iconst (0 : Int32) dX10_go_36 rfl ?_
          refine g_pfI fi_10_305 hr0 rfl rfl dX10_go_37 ?_
          obtain ⟨μ_7, eμ_7⟩ : ∃ z : gMem, z = gsI μ_1 10 r0 50 (0 : Int32) := ⟨_, rfl⟩
          have h := h μ_7 eμ_7
          refine g_mem eμ_7.symm ?_
          exact g_sub [0, 1] rfl h
      · have h := h.2 c_5
        refine g_iconst (-1 : Int32) dX10_go_29 rfl ?_
        exact g_iret dX10_go_30 rfl rfl ⟨_, rfl, h⟩
set_option maxRecDepth 20000 in
set_option maxHeartbeats 4000000 in
theorem bl_X10_go_1 {l : Launch} {D : gD} {d : Nat} {q : Int32 → gMem → Prop} {Γ : gC} {r0 : Nat} {x1 : Int32} {μ : gMem} (hr0 : r0 < 1) (h : ∀ x2_1 : Int32, x2_1 = (0 : Int32) → pt_X10_go_2 l D d q Γ r0 x1 x2_1 μ) : pt_X10_go_1 l D d q Γ r0 x1 μ := by
  unfold pt_X10_go_1
  refine g_iconst (0 : Int32) dX10_go_40 rfl ?_
  refine g_istore_n dX10_go_41 (by decide) (fun x2_1 ex2_1 => g_sub (lv' := [(0, .ref (D.2.2 10 r0)), (1, .int x1), (2, .int x2_1)]) [1, 2, 0] rfl ?_)
  have h := h x2_1 ex2_1
  exact g_sub [0, 1, 2] rfl h
set_option maxRecDepth 20000 in
set_option maxHeartbeats 4000000 in
theorem bl_X10_go_2 {l : Launch} {D : gD} {d : Nat} {q : Int32 → gMem → Prop} {Γ : gC} {r0 : Nat} {x1 : Int32} {x2 : Int32} {μ : gMem} (hr0 : r0 < 1) (h : ((x1 ≤ x2) → ∃ j_2 : Nat, j_2 < 23 ∧ (0 : Int32) = nI j_2 ∧ (q (μ.1 737 r0 j_2) μ)) ∧ ((¬ x1 ≤ x2) → ∃ (d_3 : Nat) (q_4 : gMem → Prop), d_3 < d ∧ Ctr l D d_3 yX10_passes cX10_passes 6 none [.ref (D.2.2 10 r0), .int (0 : Int32), .int (1 : Int32)] μ (pV q_4) ∧ ∀ (μ_7 : gMem), q_4 μ_7 → ∀ x2_10 : Int32, x2_10 = x2 + (1 : Int32) → pt_X10_go_2 l D d q Γ r0 x1 x2_10 μ_7)) : pt_X10_go_2 l D d q Γ r0 x1 x2 μ := by
  unfold pt_X10_go_2
  refine g_iload_n dX10_go_42 rfl ?_
  refine g_iload_n dX10_go_43 rfl ?_
  refine g_icmp_ge (tgt := 59) dX10_go_44 (by decide) (fun c_1 => ?_) (fun c_1 => ?_)
  · have h := h.1 c_1
    refine g_aload_n dX10_go_59 rfl ?_
    refine g_gfR fl_10_66 rfl hr0 dX10_go_60 ?_
    refine g_iconst (0 : Int32) dX10_go_63 rfl ?_
    obtain ⟨j_2, hj_2, ej_2, h⟩ := h
    refine g_iald j_2 hr0 rfl hj_2 (by decide) ej_2 dX10_go_64 ?_
    exact g_iret dX10_go_65 rfl rfl ⟨_, rfl, h⟩
  · have h := h.2 c_1
    refine g_aload_n dX10_go_47 rfl ?_
    refine g_iconst (0 : Int32) dX10_go_48 rfl ?_
    refine g_iconst (1 : Int32) dX10_go_49 rfl ?_
    obtain ⟨d_3, q_4, hd_5, hc_6, h⟩ := h
    refine g_cV ca_X10_390 ob_10 hc_6 hd_5 (by decide) hr0 rfl rfl (by first | exact Nat.le_of_ble_eq_true rfl | decide) dX10_go_50 (kV (fun μ_7 hq_9 => ?_))
    have h := h μ_7 hq_9
    refine g_iinc dX10_go_53 rfl (by decide) (fun x2_10 ex2_10 => g_sub (lv' := [(0, .ref (D.2.2 10 r0)), (1, .int x1), (2, .int x2_10)]) [1, 2, 0] rfl ?_)
    have h := h x2_10 ex2_10
    refine g_goto (tgt := 42) dX10_go_56 (by decide) ?_
    exact g_sub [0, 1, 2] rfl h
theorem en_X10_go {l : Launch} {D : gD} {d : Nat} {q : Int32 → gMem → Prop} {r0 : Nat} {x1 : Int32} {μ : gMem} (h : ∀ Γ : gC, pt_X10_go_0 l D d q Γ r0 x1 μ) : Ctr l D d yX10_go cX10_go 3 (some .int) [.ref (D.2.2 10 r0), .int x1] μ (pI q) :=
  Ctr_of rfl (by decide) (Nat.le_of_ble_eq_true rfl) (fun Γ => g_sub [0, 1] rfl (h Γ))
def pt_X10_ahead_0 (l : Launch) (D : gD) (d : Nat) (q : Int32 → gMem → Prop) (Γ : gC) (r0 : Nat) (x1 : Int32) (x2 : Int32) (x3 : Int32) (μ : gMem) : Prop := G l D RX10 cX10_ahead 5 (some .int) d (pI q) Γ 0 [(0, .ref (D.2.2 10 r0)), (1, .int x1), (2, .int x2), (3, .int x3)] [] μ
set_option maxRecDepth 20000 in
set_option maxHeartbeats 4000000 in
theorem bl_X10_ahead_0 {l : Launch} {D : gD} {d : Nat} {q : Int32 → gMem → Prop} {Γ : gC} {r0 : Nat} {x1 : Int32} {x2 : Int32} {x3 : Int32} {μ : gMem} (hr0 : r0 < 1) (h : ∀ μ_1 : gMem, μ_1 = gsI μ 10 r0 0 (0 : Int32) → ∃ (d_2 : Nat) (q_3 : Int32 → gMem → Prop), d_2 < d ∧ Ctr l D d_2 yX10_isMan cX10_isMan 2 (some .boolean) [.ref (D.2.2 10 r0), .int x1] μ_1 (pI q_3) ∧ ∀ (v_7 : Int32) (μ_6 : gMem), q_3 v_7 μ_6 → ((v_7 = 0) → q (-1 : Int32) μ_6) ∧ ((¬ v_7 = 0) → ((x2 < 0) → q (-1 : Int32) μ_6) ∧ ((¬ x2 < 0) → (((60 : Int32) < x2) → q (-1 : Int32) μ_6) ∧ ((¬ (60 : Int32) < x2) → ((x3 < 0) → q (-1 : Int32) μ_6) ∧ ((¬ x3 < 0) → ((x3 ≤ (3 : Int32)) → ∃ (d_14 : Nat) (q_15 : gMem → Prop), d_14 < d ∧ Ctr l D d_14 yX10_runs cX10_runs 3 none [.ref (D.2.2 10 r0), .int x2] μ_6 (pV q_15) ∧ ∀ (μ_18 : gMem), q_15 μ_18 → ∀ x4_21 : Int32, x4_21 = (5 : Int32) + x1 → (x3 = (0 : Int32) → ∃ j_23 : Nat, j_23 < 115 ∧ x4_21 = nI j_23 ∧ (∃ j_24 : Nat, j_24 < 115 ∧ x1 = nI j_24 ∧ (q ((μ_18.1 746 r0 j_23) - (μ_18.1 746 r0 j_24)) μ_18))) ∧ (x3 = (1 : Int32) → ∃ j_25 : Nat, j_25 < 115 ∧ x4_21 = nI j_25 ∧ (∃ j_26 : Nat, j_26 < 115 ∧ x1 = nI j_26 ∧ (q ((μ_18.1 745 r0 j_25) - (μ_18.1 745 r0 j_26)) μ_18))) ∧ (x3 = (2 : Int32) → ∃ j_27 : Nat, j_27 < 115 ∧ x4_21 = nI j_27 ∧ (q (μ_18.1 742 r0 j_27) μ_18)) ∧ ((¬ x3 = (0 : Int32) ∧ ¬ x3 = (1 : Int32) ∧ ¬ x3 = (2 : Int32)) → ∃ j_28 : Nat, j_28 < 115 ∧ x4_21 = nI j_28 ∧ (q (μ_18.1 741 r0 j_28) μ_18))) ∧ ((¬ x3 ≤ (3 : Int32)) → q (-1 : Int32) μ_6)))))) : pt_X10_ahead_0 l D d q Γ r0 x1 x2 x3 μ := by
  unfold pt_X10_ahead_0
  refine g_aload_n dX10_ahead_0 rfl ?_
  refine g_iconst (0 : Int32) dX10_ahead_1 rfl ?_
  refine g_pfI fi_10_145 hr0 rfl rfl dX10_ahead_2 ?_
  obtain ⟨μ_1, eμ_1⟩ : ∃ z : gMem, z = gsI μ 10 r0 0 (0 : Int32) := ⟨_, rfl⟩
  have h := h μ_1 eμ_1
  refine g_mem eμ_1.symm ?_
  refine g_aload_n dX10_ahead_5 rfl ?_
  refine g_iload_n dX10_ahead_6 rfl ?_
  obtain ⟨d_2, q_3, hd_4, hc_5, h⟩ := h
  refine g_cV ca_X10_394 ob_10 hc_5 hd_4 (by decide) hr0 rfl rfl (by first | exact Nat.le_of_ble_eq_true rfl | decide) dX10_ahead_7 (kI (fun v_7 μ_6 hq_8 => ?_))
  have h := h v_7 μ_6 hq_8
  refine g_if_eq (tgt := 32) dX10_ahead_10 (by decide) (fun c_9 => ?_) (fun c_9 => ?_)
  · have h := h.1 c_9
    refine g_iconst (-1 : Int32) dX10_ahead_32 rfl ?_
    exact g_iret dX10_ahead_33 rfl rfl ⟨_, rfl, h⟩
  · have h := h.2 c_9
    refine g_iload_n dX10_ahead_13 rfl ?_
    refine g_if_lt (tgt := 32) dX10_ahead_14 (by decide) (fun c_10 => ?_) (fun c_10 => ?_)
    · have h := h.1 c_10
      refine g_iconst (-1 : Int32) dX10_ahead_32 rfl ?_
      exact g_iret dX10_ahead_33 rfl rfl ⟨_, rfl, h⟩
    · have h := h.2 c_10
      refine g_iload_n dX10_ahead_17 rfl ?_
      refine g_bipush (60 : Int32) dX10_ahead_18 rfl ?_
      refine g_icmp_gt (tgt := 32) dX10_ahead_20 (by decide) (fun c_11 => ?_) (fun c_11 => ?_)
      · have h := h.1 c_11
        refine g_iconst (-1 : Int32) dX10_ahead_32 rfl ?_
        exact g_iret dX10_ahead_33 rfl rfl ⟨_, rfl, h⟩
      · have h := h.2 c_11
        refine g_iload_n dX10_ahead_23 rfl ?_
        refine g_if_lt (tgt := 32) dX10_ahead_24 (by decide) (fun c_12 => ?_) (fun c_12 => ?_)
        · have h := h.1 c_12
          refine g_iconst (-1 : Int32) dX10_ahead_32 rfl ?_
          exact g_iret dX10_ahead_33 rfl rfl ⟨_, rfl, h⟩
        · have h := h.2 c_12
          refine g_iload_n dX10_ahead_27 rfl ?_
          refine g_iconst (3 : Int32) dX10_ahead_28 rfl ?_
          refine g_icmp_le (tgt := 34) dX10_ahead_29 (by decide) (fun c_13 => ?_) (fun c_13 => ?_)
          · have h := h.1 c_13
            refine g_aload_n dX10_ahead_34 rfl ?_
            refine g_iload_n dX10_ahead_35 rfl ?_
            obtain ⟨d_14, q_15, hd_16, hc_17, h⟩ := h
            refine g_cV ca_X10_407 ob_10 hc_17 hd_16 (by decide) hr0 rfl rfl (by first | exact Nat.le_of_ble_eq_true rfl | decide) dX10_ahead_36 (kV (fun μ_18 hq_20 => ?_))
            have h := h μ_18 hq_20
            refine g_iconst (5 : Int32) dX10_ahead_39 rfl ?_
            refine g_iload_n dX10_ahead_40 rfl ?_
            refine g_iadd dX10_ahead_41 ?_
            refine g_istore dX10_ahead_42 (by decide) (fun x4_21 ex4_21 => g_sub (lv' := [(0, .ref (D.2.2 10 r0)), (1, .int x1), (3, .int x3), (4, .int x4_21)]) [1, 2, 4, 0] rfl ?_)
            have h := h x4_21 ex4_21
            refine g_iload_n dX10_ahead_44 rfl ?_
            by_cases c_22_0 : x3 = (0 : Int32)
            · refine g_tableIn (off := 27) (tgt := 72) dX10_ahead_45 (by rw [c_22_0]; decide) (by rw [c_22_0]; decide) (by rw [c_22_0]; rfl) (by decide) ?_
              have h := h.1 c_22_0
              refine g_aload_n dX10_ahead_72 rfl ?_
              refine g_gfR fl_10_93 rfl hr0 dX10_ahead_73 ?_
              refine g_iload dX10_ahead_76 rfl ?_
              obtain ⟨j_23, hj_23, ej_23, h⟩ := h
              refine g_iald j_23 hr0 rfl hj_23 (by decide) ej_23 dX10_ahead_78 ?_
              refine g_aload_n dX10_ahead_79 rfl ?_
              refine g_gfR fl_10_93 rfl hr0 dX10_ahead_80 ?_
              refine g_iload_n dX10_ahead_83 rfl ?_
              obtain ⟨j_24, hj_24, ej_24, h⟩ := h
              refine g_iald j_24 hr0 rfl hj_24 (by decide) ej_24 dX10_ahead_84 ?_
              refine g_isub dX10_ahead_85 ?_
              exact g_iret dX10_ahead_86 rfl rfl ⟨_, rfl, h⟩
            by_cases c_22_1 : x3 = (1 : Int32)
            · refine g_tableIn (off := 42) (tgt := 87) dX10_ahead_45 (by rw [c_22_1]; decide) (by rw [c_22_1]; decide) (by rw [c_22_1]; rfl) (by decide) ?_
              have h := h.2.1 c_22_1
              refine g_aload_n dX10_ahead_87 rfl ?_
              refine g_gfR fl_10_90 rfl hr0 dX10_ahead_88 ?_
              refine g_iload dX10_ahead_91 rfl ?_
              obtain ⟨j_25, hj_25, ej_25, h⟩ := h
              refine g_iald j_25 hr0 rfl hj_25 (by decide) ej_25 dX10_ahead_93 ?_
              refine g_aload_n dX10_ahead_94 rfl ?_
              refine g_gfR fl_10_90 rfl hr0 dX10_ahead_95 ?_
              refine g_iload_n dX10_ahead_98 rfl ?_
              obtain ⟨j_26, hj_26, ej_26, h⟩ := h
              refine g_iald j_26 hr0 rfl hj_26 (by decide) ej_26 dX10_ahead_99 ?_
              refine g_isub dX10_ahead_100 ?_
              exact g_iret dX10_ahead_101 rfl rfl ⟨_, rfl, h⟩
            by_cases c_22_2 : x3 = (2 : Int32)
            · refine g_tableIn (off := 57) (tgt := 102) dX10_ahead_45 (by rw [c_22_2]; decide) (by rw [c_22_2]; decide) (by rw [c_22_2]; rfl) (by decide) ?_
              have h := h.2.2.1 c_22_2
              refine g_aload_n dX10_ahead_102 rfl ?_
              refine g_gfR fl_10_81 rfl hr0 dX10_ahead_103 ?_
              refine g_iload dX10_ahead_106 rfl ?_
              obtain ⟨j_27, hj_27, ej_27, h⟩ := h
              refine g_iald j_27 hr0 rfl hj_27 (by decide) ej_27 dX10_ahead_108 ?_
              exact g_iret dX10_ahead_109 rfl rfl ⟨_, rfl, h⟩
            have c_22_o : (x3).toInt < 0 ∨ 2 < (x3).toInt := by
              have := lv_neT c_22_0 (a := 0) rfl
              have := lv_neT c_22_1 (a := 1) rfl
              have := lv_neT c_22_2 (a := 2) rfl
              omega
            refine g_tableOut (tgt := 110) dX10_ahead_45 c_22_o (by decide) ?_
            have h := h.2.2.2 ⟨c_22_0, c_22_1, c_22_2⟩
            refine g_aload_n dX10_ahead_110 rfl ?_
            refine g_gfR fl_10_78 rfl hr0 dX10_ahead_111 ?_
            refine g_iload dX10_ahead_114 rfl ?_
            obtain ⟨j_28, hj_28, ej_28, h⟩ := h
            refine g_iald j_28 hr0 rfl hj_28 (by decide) ej_28 dX10_ahead_116 ?_
            exact g_iret dX10_ahead_117 rfl rfl ⟨_, rfl, h⟩
          · have h := h.2 c_13
            refine g_iconst (-1 : Int32) dX10_ahead_32 rfl ?_
            exact g_iret dX10_ahead_33 rfl rfl ⟨_, rfl, h⟩
theorem en_X10_ahead {l : Launch} {D : gD} {d : Nat} {q : Int32 → gMem → Prop} {r0 : Nat} {x1 : Int32} {x2 : Int32} {x3 : Int32} {μ : gMem} (h : ∀ Γ : gC, pt_X10_ahead_0 l D d q Γ r0 x1 x2 x3 μ) : Ctr l D d yX10_ahead cX10_ahead 5 (some .int) [.ref (D.2.2 10 r0), .int x1, .int x2, .int x3] μ (pI q) :=
  Ctr_of rfl (by decide) (Nat.le_of_ble_eq_true rfl) (fun Γ => g_sub [0, 1, 2, 3] rfl (h Γ))
def pt_X10_reaches_0 (l : Launch) (D : gD) (d : Nat) (q : Int32 → gMem → Prop) (Γ : gC) (r0 : Nat) (x1 : Int32) (x2 : Int32) (μ : gMem) : Prop := G l D RX10 cX10_reaches 4 (some .int) d (pI q) Γ 0 [(0, .ref (D.2.2 10 r0)), (1, .int x1), (2, .int x2)] [] μ
def pt_X10_reaches_1 (l : Launch) (D : gD) (d : Nat) (q : Int32 → gMem → Prop) (Γ : gC) (r0 : Nat) (x1 : Int32) (x2 : Int32) (x3 : Int32) (μ : gMem) : Prop := G l D RX10 cX10_reaches 4 (some .int) d (pI q) Γ 34 [(0, .ref (D.2.2 10 r0)), (1, .int x1), (2, .int x2), (3, .int x3)] [] μ
set_option maxRecDepth 20000 in
set_option maxHeartbeats 4000000 in
theorem bl_X10_reaches_0 {l : Launch} {D : gD} {d : Nat} {q : Int32 → gMem → Prop} {Γ : gC} {r0 : Nat} {x1 : Int32} {x2 : Int32} {μ : gMem} (hr0 : r0 < 1) (h : ∀ μ_1 : gMem, μ_1 = gsI μ 10 r0 0 (0 : Int32) → ∃ (d_2 : Nat) (q_3 : Int32 → gMem → Prop), d_2 < d ∧ Ctr l D d_2 yX10_isMan cX10_isMan 2 (some .boolean) [.ref (D.2.2 10 r0), .int x1] μ_1 (pI q_3) ∧ ∀ (v_7 : Int32) (μ_6 : gMem), q_3 v_7 μ_6 → ((v_7 = 0) → q (-1 : Int32) μ_6) ∧ ((¬ v_7 = 0) → ((x2 < (1 : Int32)) → q (-1 : Int32) μ_6) ∧ ((¬ x2 < (1 : Int32)) → ((x2 ≤ (99 : Int32)) → ∃ (d_12 : Nat) (q_13 : gMem → Prop), d_12 < d ∧ Ctr l D d_12 yX10_copies cX10_copies 6 none [.ref (D.2.2 10 r0), .int (1 : Int32), .int (0 : Int32)] μ_6 (pV q_13) ∧ ∀ (μ_16 : gMem), q_13 μ_16 → ∀ x3_19 : Int32, x3_19 = (1 : Int32) → pt_X10_reaches_1 l D d q Γ r0 x1 x2 x3_19 μ_16) ∧ ((¬ x2 ≤ (99 : Int32)) → q (-1 : Int32) μ_6)))) : pt_X10_reaches_0 l D d q Γ r0 x1 x2 μ := by
  unfold pt_X10_reaches_0
  refine g_aload_n dX10_reaches_0 rfl ?_
  refine g_iconst (0 : Int32) dX10_reaches_1 rfl ?_
  refine g_pfI fi_10_145 hr0 rfl rfl dX10_reaches_2 ?_
  obtain ⟨μ_1, eμ_1⟩ : ∃ z : gMem, z = gsI μ 10 r0 0 (0 : Int32) := ⟨_, rfl⟩
  have h := h μ_1 eμ_1
  refine g_mem eμ_1.symm ?_
  refine g_aload_n dX10_reaches_5 rfl ?_
  refine g_iload_n dX10_reaches_6 rfl ?_
  obtain ⟨d_2, q_3, hd_4, hc_5, h⟩ := h
  refine g_cV ca_X10_394 ob_10 hc_5 hd_4 (by decide) hr0 rfl rfl (by first | exact Nat.le_of_ble_eq_true rfl | decide) dX10_reaches_7 (kI (fun v_7 μ_6 hq_8 => ?_))
  have h := h v_7 μ_6 hq_8
  refine g_if_eq (tgt := 24) dX10_reaches_10 (by decide) (fun c_9 => ?_) (fun c_9 => ?_)
  · have h := h.1 c_9
    refine g_iconst (-1 : Int32) dX10_reaches_24 rfl ?_
    exact g_iret dX10_reaches_25 rfl rfl ⟨_, rfl, h⟩
  · have h := h.2 c_9
    refine g_iload_n dX10_reaches_13 rfl ?_
    refine g_iconst (1 : Int32) dX10_reaches_14 rfl ?_
    refine g_icmp_lt (tgt := 24) dX10_reaches_15 (by decide) (fun c_10 => ?_) (fun c_10 => ?_)
    · have h := h.1 c_10
      refine g_iconst (-1 : Int32) dX10_reaches_24 rfl ?_
      exact g_iret dX10_reaches_25 rfl rfl ⟨_, rfl, h⟩
    · have h := h.2 c_10
      refine g_iload_n dX10_reaches_18 rfl ?_
      refine g_bipush (99 : Int32) dX10_reaches_19 rfl ?_
      refine g_icmp_le (tgt := 26) dX10_reaches_21 (by decide) (fun c_11 => ?_) (fun c_11 => ?_)
      · have h := h.1 c_11
        refine g_aload_n dX10_reaches_26 rfl ?_
        refine g_iconst (1 : Int32) dX10_reaches_27 rfl ?_
        refine g_iconst (0 : Int32) dX10_reaches_28 rfl ?_
        obtain ⟨d_12, q_13, hd_14, hc_15, h⟩ := h
        refine g_cV ca_X10_387 ob_10 hc_15 hd_14 (by decide) hr0 rfl rfl (by first | exact Nat.le_of_ble_eq_true rfl | decide) dX10_reaches_29 (kV (fun μ_16 hq_18 => ?_))
        have h := h μ_16 hq_18
        refine g_iconst (1 : Int32) dX10_reaches_32 rfl ?_
        refine g_istore_n dX10_reaches_33 (by decide) (fun x3_19 ex3_19 => g_sub (lv' := [(0, .ref (D.2.2 10 r0)), (1, .int x1), (2, .int x2), (3, .int x3_19)]) [1, 2, 3, 0] rfl ?_)
        have h := h x3_19 ex3_19
        exact g_sub [0, 1, 2, 3] rfl h
      · have h := h.2 c_11
        refine g_iconst (-1 : Int32) dX10_reaches_24 rfl ?_
        exact g_iret dX10_reaches_25 rfl rfl ⟨_, rfl, h⟩
set_option maxRecDepth 20000 in
set_option maxHeartbeats 4000000 in
theorem bl_X10_reaches_1 {l : Launch} {D : gD} {d : Nat} {q : Int32 → gMem → Prop} {Γ : gC} {r0 : Nat} {x1 : Int32} {x2 : Int32} {x3 : Int32} {μ : gMem} (hr0 : r0 < 1) (h : ((x2 < x3) → q (-2 : Int32) μ) ∧ ((¬ x2 < x3) → ∃ (d_2 : Nat) (q_3 : gMem → Prop), d_2 < d ∧ Ctr l D d_2 yX10_passes cX10_passes 6 none [.ref (D.2.2 10 r0), .int (1 : Int32), .int (0 : Int32)] μ (pV q_3) ∧ ∀ (μ_6 : gMem), q_3 μ_6 → ∃ j_9 : Nat, j_9 < 115 ∧ (5 : Int32) + x1 = nI j_9 ∧ ((((μ_6.1 742 r0 j_9) ≤ 0) → ∀ x3_11 : Int32, x3_11 = x3 + (1 : Int32) → pt_X10_reaches_1 l D d q Γ r0 x1 x2 x3_11 μ_6) ∧ ((¬ (μ_6.1 742 r0 j_9) ≤ 0) → q x3 μ_6)))) : pt_X10_reaches_1 l D d q Γ r0 x1 x2 x3 μ := by
  unfold pt_X10_reaches_1
  refine g_iload_n dX10_reaches_34 rfl ?_
  refine g_iload_n dX10_reaches_35 rfl ?_
  refine g_icmp_gt (tgt := 64) dX10_reaches_36 (by decide) (fun c_1 => ?_) (fun c_1 => ?_)
  · have h := h.1 c_1
    refine g_bipush (-2 : Int32) dX10_reaches_64 rfl ?_
    exact g_iret dX10_reaches_66 rfl rfl ⟨_, rfl, h⟩
  · have h := h.2 c_1
    refine g_aload_n dX10_reaches_39 rfl ?_
    refine g_iconst (1 : Int32) dX10_reaches_40 rfl ?_
    refine g_iconst (0 : Int32) dX10_reaches_41 rfl ?_
    obtain ⟨d_2, q_3, hd_4, hc_5, h⟩ := h
    refine g_cV ca_X10_390 ob_10 hc_5 hd_4 (by decide) hr0 rfl rfl (by first | exact Nat.le_of_ble_eq_true rfl | decide) dX10_reaches_42 (kV (fun μ_6 hq_8 => ?_))
    have h := h μ_6 hq_8
    refine g_aload_n dX10_reaches_45 rfl ?_
    refine g_gfR fl_10_81 rfl hr0 dX10_reaches_46 ?_
    refine g_iconst (5 : Int32) dX10_reaches_49 rfl ?_
    refine g_iload_n dX10_reaches_50 rfl ?_
    refine g_iadd dX10_reaches_51 ?_
    obtain ⟨j_9, hj_9, ej_9, h⟩ := h
    refine g_iald j_9 hr0 rfl hj_9 (by decide) ej_9 dX10_reaches_52 ?_
    refine g_if_le (tgt := 58) dX10_reaches_53 (by decide) (fun c_10 => ?_) (fun c_10 => ?_)
    · have h := h.1 c_10
      refine g_iinc dX10_reaches_58 rfl (by decide) (fun x3_11 ex3_11 => g_sub (lv' := [(0, .ref (D.2.2 10 r0)), (1, .int x1), (2, .int x2), (3, .int x3_11)]) [1, 2, 3, 0] rfl ?_)
      have h := h x3_11 ex3_11
      refine g_goto (tgt := 34) dX10_reaches_61 (by decide) ?_
      exact g_sub [0, 1, 2, 3] rfl h
    · have h := h.2 c_10
      refine g_iload_n dX10_reaches_56 rfl ?_
      exact g_iret dX10_reaches_57 rfl rfl ⟨_, rfl, h⟩
theorem en_X10_reaches {l : Launch} {D : gD} {d : Nat} {q : Int32 → gMem → Prop} {r0 : Nat} {x1 : Int32} {x2 : Int32} {μ : gMem} (h : ∀ Γ : gC, pt_X10_reaches_0 l D d q Γ r0 x1 x2 μ) : Ctr l D d yX10_reaches cX10_reaches 4 (some .int) [.ref (D.2.2 10 r0), .int x1, .int x2] μ (pI q) :=
  Ctr_of rfl (by decide) (Nat.le_of_ble_eq_true rfl) (fun Γ => g_sub [0, 1, 2] rfl (h Γ))
def pt_X10_longest_0 (l : Launch) (D : gD) (d : Nat) (q : Int32 → gMem → Prop) (Γ : gC) (r0 : Nat) (x1 : Int32) (x2 : Int32) (μ : gMem) : Prop := G l D RX10 cX10_longest 5 (some .int) d (pI q) Γ 0 [(0, .ref (D.2.2 10 r0)), (1, .int x1), (2, .int x2)] [] μ
def pt_X10_longest_1 (l : Launch) (D : gD) (d : Nat) (q : Int32 → gMem → Prop) (Γ : gC) (r0 : Nat) (x1 : Int32) (x2 : Int32) (x3 : Int32) (x4 : Int32) (μ : gMem) : Prop := G l D RX10 cX10_longest 5 (some .int) d (pI q) Γ 41 [(0, .ref (D.2.2 10 r0)), (1, .int x1), (2, .int x2), (3, .int x3), (4, .int x4)] [] μ
set_option maxRecDepth 20000 in
set_option maxHeartbeats 4000000 in
theorem bl_X10_longest_0 {l : Launch} {D : gD} {d : Nat} {q : Int32 → gMem → Prop} {Γ : gC} {r0 : Nat} {x1 : Int32} {x2 : Int32} {μ : gMem} (hr0 : r0 < 1) (h : ∀ μ_1 : gMem, μ_1 = gsI μ 10 r0 0 (0 : Int32) → ∃ (d_2 : Nat) (q_3 : Int32 → gMem → Prop), d_2 < d ∧ Ctr l D d_2 yX10_isMan cX10_isMan 2 (some .boolean) [.ref (D.2.2 10 r0), .int x1] μ_1 (pI q_3) ∧ ∀ (v_7 : Int32) (μ_6 : gMem), q_3 v_7 μ_6 → ((v_7 = 0) → q (-1 : Int32) μ_6) ∧ ((¬ v_7 = 0) → ((x2 < 0) → q (-1 : Int32) μ_6) ∧ ((¬ x2 < 0) → ((x2 ≤ (99 : Int32)) → ∃ j_12 : Nat, j_12 < 115 ∧ x1 = nI j_12 ∧ (∀ x3_13 : Int32, x3_13 = μ_6.1 742 r0 j_12 → ∃ (d_14 : Nat) (q_15 : gMem → Prop), d_14 < d ∧ Ctr l D d_14 yX10_copies cX10_copies 6 none [.ref (D.2.2 10 r0), .int (1 : Int32), .int (0 : Int32)] μ_6 (pV q_15) ∧ ∀ (μ_18 : gMem), q_15 μ_18 → ∀ x4_21 : Int32, x4_21 = (0 : Int32) → pt_X10_longest_1 l D d q Γ r0 x1 x2 x3_13 x4_21 μ_18)) ∧ ((¬ x2 ≤ (99 : Int32)) → q (-1 : Int32) μ_6)))) : pt_X10_longest_0 l D d q Γ r0 x1 x2 μ := by
  unfold pt_X10_longest_0
  refine g_aload_n dX10_longest_0 rfl ?_
  refine g_iconst (0 : Int32) dX10_longest_1 rfl ?_
  refine g_pfI fi_10_145 hr0 rfl rfl dX10_longest_2 ?_
  obtain ⟨μ_1, eμ_1⟩ : ∃ z : gMem, z = gsI μ 10 r0 0 (0 : Int32) := ⟨_, rfl⟩
  have h := h μ_1 eμ_1
  refine g_mem eμ_1.symm ?_
  refine g_aload_n dX10_longest_5 rfl ?_
  refine g_iload_n dX10_longest_6 rfl ?_
  obtain ⟨d_2, q_3, hd_4, hc_5, h⟩ := h
  refine g_cV ca_X10_394 ob_10 hc_5 hd_4 (by decide) hr0 rfl rfl (by first | exact Nat.le_of_ble_eq_true rfl | decide) dX10_longest_7 (kI (fun v_7 μ_6 hq_8 => ?_))
  have h := h v_7 μ_6 hq_8
  refine g_if_eq (tgt := 23) dX10_longest_10 (by decide) (fun c_9 => ?_) (fun c_9 => ?_)
  · have h := h.1 c_9
    refine g_iconst (-1 : Int32) dX10_longest_23 rfl ?_
    exact g_iret dX10_longest_24 rfl rfl ⟨_, rfl, h⟩
  · have h := h.2 c_9
    refine g_iload_n dX10_longest_13 rfl ?_
    refine g_if_lt (tgt := 23) dX10_longest_14 (by decide) (fun c_10 => ?_) (fun c_10 => ?_)
    · have h := h.1 c_10
      refine g_iconst (-1 : Int32) dX10_longest_23 rfl ?_
      exact g_iret dX10_longest_24 rfl rfl ⟨_, rfl, h⟩
    · have h := h.2 c_10
      refine g_iload_n dX10_longest_17 rfl ?_
      refine g_bipush (99 : Int32) dX10_longest_18 rfl ?_
      refine g_icmp_le (tgt := 25) dX10_longest_20 (by decide) (fun c_11 => ?_) (fun c_11 => ?_)
      · have h := h.1 c_11
        refine g_aload_n dX10_longest_25 rfl ?_
        refine g_gfR fl_10_81 rfl hr0 dX10_longest_26 ?_
        refine g_iload_n dX10_longest_29 rfl ?_
        obtain ⟨j_12, hj_12, ej_12, h⟩ := h
        refine g_iald j_12 hr0 rfl hj_12 (by decide) ej_12 dX10_longest_30 ?_
        refine g_istore_n dX10_longest_31 (by decide) (fun x3_13 ex3_13 => g_sub (lv' := [(0, .ref (D.2.2 10 r0)), (1, .int x1), (2, .int x2), (3, .int x3_13)]) [1, 2, 3, 0] rfl ?_)
        have h := h x3_13 ex3_13
        refine g_aload_n dX10_longest_32 rfl ?_
        refine g_iconst (1 : Int32) dX10_longest_33 rfl ?_
        refine g_iconst (0 : Int32) dX10_longest_34 rfl ?_
        obtain ⟨d_14, q_15, hd_16, hc_17, h⟩ := h
        refine g_cV ca_X10_387 ob_10 hc_17 hd_16 (by decide) hr0 rfl rfl (by first | exact Nat.le_of_ble_eq_true rfl | decide) dX10_longest_35 (kV (fun μ_18 hq_20 => ?_))
        have h := h μ_18 hq_20
        refine g_iconst (0 : Int32) dX10_longest_38 rfl ?_
        refine g_istore dX10_longest_39 (by decide) (fun x4_21 ex4_21 => g_sub (lv' := [(0, .ref (D.2.2 10 r0)), (1, .int x1), (2, .int x2), (3, .int x3_13), (4, .int x4_21)]) [1, 2, 3, 4, 0] rfl ?_)
        have h := h x4_21 ex4_21
        exact g_sub [0, 1, 2, 3, 4] rfl h
      · have h := h.2 c_11
        refine g_iconst (-1 : Int32) dX10_longest_23 rfl ?_
        exact g_iret dX10_longest_24 rfl rfl ⟨_, rfl, h⟩
set_option maxRecDepth 20000 in
set_option maxHeartbeats 4000000 in
theorem bl_X10_longest_1 {l : Launch} {D : gD} {d : Nat} {q : Int32 → gMem → Prop} {Γ : gC} {r0 : Nat} {x1 : Int32} {x2 : Int32} {x3 : Int32} {x4 : Int32} {μ : gMem} (hr0 : r0 < 1) (h : ((x2 ≤ x4) → q x3 μ) ∧ ((¬ x2 ≤ x4) → ∃ (d_2 : Nat) (q_3 : gMem → Prop), d_2 < d ∧ Ctr l D d_2 yX10_passes cX10_passes 6 none [.ref (D.2.2 10 r0), .int (1 : Int32), .int (0 : Int32)] μ (pV q_3) ∧ ∀ (μ_6 : gMem), q_3 μ_6 → ∃ j_9 : Nat, j_9 < 115 ∧ (5 : Int32) + x1 = nI j_9 ∧ ((0 < d) ∧ (∀ x3_11 : Int32, x3_11 = imax x3 (μ_6.1 742 r0 j_9) → ∀ x4_12 : Int32, x4_12 = x4 + (1 : Int32) → pt_X10_longest_1 l D d q Γ r0 x1 x2 x3_11 x4_12 μ_6)))) : pt_X10_longest_1 l D d q Γ r0 x1 x2 x3 x4 μ := by
  unfold pt_X10_longest_1
  refine g_iload dX10_longest_41 rfl ?_
  refine g_iload_n dX10_longest_43 rfl ?_
  refine g_icmp_ge (tgt := 72) dX10_longest_44 (by decide) (fun c_1 => ?_) (fun c_1 => ?_)
  · have h := h.1 c_1
    refine g_iload_n dX10_longest_72 rfl ?_
    exact g_iret dX10_longest_73 rfl rfl ⟨_, rfl, h⟩
  · have h := h.2 c_1
    refine g_aload_n dX10_longest_47 rfl ?_
    refine g_iconst (1 : Int32) dX10_longest_48 rfl ?_
    refine g_iconst (0 : Int32) dX10_longest_49 rfl ?_
    obtain ⟨d_2, q_3, hd_4, hc_5, h⟩ := h
    refine g_cV ca_X10_390 ob_10 hc_5 hd_4 (by decide) hr0 rfl rfl (by first | exact Nat.le_of_ble_eq_true rfl | decide) dX10_longest_50 (kV (fun μ_6 hq_8 => ?_))
    have h := h μ_6 hq_8
    refine g_iload_n dX10_longest_53 rfl ?_
    refine g_aload_n dX10_longest_54 rfl ?_
    refine g_gfR fl_10_81 rfl hr0 dX10_longest_55 ?_
    refine g_iconst (5 : Int32) dX10_longest_58 rfl ?_
    refine g_iload_n dX10_longest_59 rfl ?_
    refine g_iadd dX10_longest_60 ?_
    obtain ⟨j_9, hj_9, ej_9, h⟩ := h
    refine g_iald j_9 hr0 rfl hj_9 (by decide) ej_9 dX10_longest_61 ?_
    obtain ⟨hd_10, h⟩ := h
    refine g_mmax hd_10 mk_X10_337 (by first | exact Nat.le_of_ble_eq_true rfl | decide) dX10_longest_62 ?_
    refine g_istore_n dX10_longest_65 (by decide) (fun x3_11 ex3_11 => g_sub (lv' := [(0, .ref (D.2.2 10 r0)), (1, .int x1), (2, .int x2), (3, .int x3_11), (4, .int x4)]) [1, 2, 3, 0, 4] rfl ?_)
    have h := h x3_11 ex3_11
    refine g_iinc dX10_longest_66 rfl (by decide) (fun x4_12 ex4_12 => g_sub (lv' := [(0, .ref (D.2.2 10 r0)), (1, .int x1), (2, .int x2), (3, .int x3_11), (4, .int x4_12)]) [1, 2, 3, 4, 0] rfl ?_)
    have h := h x4_12 ex4_12
    refine g_goto (tgt := 41) dX10_longest_69 (by decide) ?_
    exact g_sub [0, 1, 2, 3, 4] rfl h
theorem en_X10_longest {l : Launch} {D : gD} {d : Nat} {q : Int32 → gMem → Prop} {r0 : Nat} {x1 : Int32} {x2 : Int32} {μ : gMem} (h : ∀ Γ : gC, pt_X10_longest_0 l D d q Γ r0 x1 x2 μ) : Ctr l D d yX10_longest cX10_longest 5 (some .int) [.ref (D.2.2 10 r0), .int x1, .int x2] μ (pI q) :=
  Ctr_of rfl (by decide) (Nat.le_of_ble_eq_true rfl) (fun Γ => g_sub [0, 1, 2] rfl (h Γ))
def pt_X10_moves_0 (l : Launch) (D : gD) (d : Nat) (q : Int32 → gMem → Prop) (Γ : gC) (r0 : Nat) (x1 : Int32) (x2 : Int32) (x3 : Int32) (μ : gMem) : Prop := G l D RX10 cX10_moves 8 (some .int) d (pI q) Γ 0 [(0, .ref (D.2.2 10 r0)), (1, .int x1), (2, .int x2), (3, .int x3)] [] μ
def pt_X10_moves_1 (l : Launch) (D : gD) (d : Nat) (q : Int32 → gMem → Prop) (Γ : gC) (r0 : Nat) (x1 : Int32) (x2 : Int32) (x3 : Int32) (x4 : Int32) (x5 : Int32) (x6 : Int32) (μ : gMem) : Prop := G l D RX10 cX10_moves 8 (some .int) d (pI q) Γ 44 [(0, .ref (D.2.2 10 r0)), (1, .int x1), (2, .int x2), (3, .int x3), (4, .int x4), (5, .int x5), (6, .int x6)] [] μ
def pt_X10_moves_2 (l : Launch) (D : gD) (d : Nat) (q : Int32 → gMem → Prop) (Γ : gC) (r0 : Nat) (x1 : Int32) (x2 : Int32) (x3 : Int32) (x4 : Int32) (x5 : Int32) (x6 : Int32) (x7 : Int32) (μ : gMem) : Prop := G l D RX10 cX10_moves 8 (some .int) d (pI q) Γ 70 [(0, .ref (D.2.2 10 r0)), (1, .int x1), (2, .int x2), (3, .int x3), (4, .int x4), (5, .int x5), (6, .int x6), (7, .int x7)] [] μ
def pt_X10_moves_3 (l : Launch) (D : gD) (d : Nat) (q : Int32 → gMem → Prop) (Γ : gC) (r0 : Nat) (x1 : Int32) (x2 : Int32) (x3 : Int32) (x4 : Int32) (x5 : Int32) (x6 : Int32) (μ : gMem) : Prop := G l D RX10 cX10_moves 8 (some .int) d (pI q) Γ 123 [(0, .ref (D.2.2 10 r0)), (1, .int x1), (2, .int x2), (3, .int x3), (4, .int x4), (5, .int x5), (6, .int x6)] [] μ
set_option maxRecDepth 20000 in
set_option maxHeartbeats 4000000 in
theorem bl_X10_moves_0 {l : Launch} {D : gD} {d : Nat} {q : Int32 → gMem → Prop} {Γ : gC} {r0 : Nat} {x1 : Int32} {x2 : Int32} {x3 : Int32} {μ : gMem} (hr0 : r0 < 1) (h : ∀ μ_1 : gMem, μ_1 = gsI μ 10 r0 0 (0 : Int32) → ∃ (d_2 : Nat) (q_3 : Int32 → gMem → Prop), d_2 < d ∧ Ctr l D d_2 yX10_isMan cX10_isMan 2 (some .boolean) [.ref (D.2.2 10 r0), .int x1] μ_1 (pI q_3) ∧ ∀ (v_7 : Int32) (μ_6 : gMem), q_3 v_7 μ_6 → ((v_7 = 0) → q (-1 : Int32) μ_6) ∧ ((¬ v_7 = 0) → ((x2 < (1 : Int32)) → q (-1 : Int32) μ_6) ∧ ((¬ x2 < (1 : Int32)) → (((60 : Int32) < x2) → q (-1 : Int32) μ_6) ∧ ((¬ (60 : Int32) < x2) → ((x3 < 0) → q (-1 : Int32) μ_6) ∧ ((¬ x3 < 0) → ((x3 ≤ (1 : Int32)) → ∀ x4_14 : Int32, x4_14 = (0 : Int32) → ∀ x5_15 : Int32, x5_15 = (-1 : Int32) → ∀ x6_16 : Int32, x6_16 = (0 : Int32) → pt_X10_moves_1 l D d q Γ r0 x1 x2 x3 x4_14 x5_15 x6_16 μ_6) ∧ ((¬ x3 ≤ (1 : Int32)) → q (-1 : Int32) μ_6)))))) : pt_X10_moves_0 l D d q Γ r0 x1 x2 x3 μ := by
  unfold pt_X10_moves_0
  refine g_aload_n dX10_moves_0 rfl ?_
  refine g_iconst (0 : Int32) dX10_moves_1 rfl ?_
  refine g_pfI fi_10_145 hr0 rfl rfl dX10_moves_2 ?_
  obtain ⟨μ_1, eμ_1⟩ : ∃ z : gMem, z = gsI μ 10 r0 0 (0 : Int32) := ⟨_, rfl⟩
  have h := h μ_1 eμ_1
  refine g_mem eμ_1.symm ?_
  refine g_aload_n dX10_moves_5 rfl ?_
  refine g_iload_n dX10_moves_6 rfl ?_
  obtain ⟨d_2, q_3, hd_4, hc_5, h⟩ := h
  refine g_cV ca_X10_394 ob_10 hc_5 hd_4 (by decide) hr0 rfl rfl (by first | exact Nat.le_of_ble_eq_true rfl | decide) dX10_moves_7 (kI (fun v_7 μ_6 hq_8 => ?_))
  have h := h v_7 μ_6 hq_8
  refine g_if_eq (tgt := 33) dX10_moves_10 (by decide) (fun c_9 => ?_) (fun c_9 => ?_)
  · have h := h.1 c_9
    refine g_iconst (-1 : Int32) dX10_moves_33 rfl ?_
    exact g_iret dX10_moves_34 rfl rfl ⟨_, rfl, h⟩
  · have h := h.2 c_9
    refine g_iload_n dX10_moves_13 rfl ?_
    refine g_iconst (1 : Int32) dX10_moves_14 rfl ?_
    refine g_icmp_lt (tgt := 33) dX10_moves_15 (by decide) (fun c_10 => ?_) (fun c_10 => ?_)
    · have h := h.1 c_10
      refine g_iconst (-1 : Int32) dX10_moves_33 rfl ?_
      exact g_iret dX10_moves_34 rfl rfl ⟨_, rfl, h⟩
    · have h := h.2 c_10
      refine g_iload_n dX10_moves_18 rfl ?_
      refine g_bipush (60 : Int32) dX10_moves_19 rfl ?_
      refine g_icmp_gt (tgt := 33) dX10_moves_21 (by decide) (fun c_11 => ?_) (fun c_11 => ?_)
      · have h := h.1 c_11
        refine g_iconst (-1 : Int32) dX10_moves_33 rfl ?_
        exact g_iret dX10_moves_34 rfl rfl ⟨_, rfl, h⟩
      · have h := h.2 c_11
        refine g_iload_n dX10_moves_24 rfl ?_
        refine g_if_lt (tgt := 33) dX10_moves_25 (by decide) (fun c_12 => ?_) (fun c_12 => ?_)
        · have h := h.1 c_12
          refine g_iconst (-1 : Int32) dX10_moves_33 rfl ?_
          exact g_iret dX10_moves_34 rfl rfl ⟨_, rfl, h⟩
        · have h := h.2 c_12
          refine g_iload_n dX10_moves_28 rfl ?_
          refine g_iconst (1 : Int32) dX10_moves_29 rfl ?_
          refine g_icmp_le (tgt := 35) dX10_moves_30 (by decide) (fun c_13 => ?_) (fun c_13 => ?_)
          · have h := h.1 c_13
            refine g_iconst (0 : Int32) dX10_moves_35 rfl ?_
            refine g_istore dX10_moves_36 (by decide) (fun x4_14 ex4_14 => g_sub (lv' := [(0, .ref (D.2.2 10 r0)), (1, .int x1), (2, .int x2), (3, .int x3), (4, .int x4_14)]) [1, 2, 3, 4, 0] rfl ?_)
            have h := h x4_14 ex4_14
            refine g_iconst (-1 : Int32) dX10_moves_38 rfl ?_
            refine g_istore dX10_moves_39 (by decide) (fun x5_15 ex5_15 => g_sub (lv' := [(0, .ref (D.2.2 10 r0)), (1, .int x1), (2, .int x2), (3, .int x3), (4, .int x4_14), (5, .int x5_15)]) [1, 2, 3, 4, 5, 0] rfl ?_)
            have h := h x5_15 ex5_15
            refine g_iconst (0 : Int32) dX10_moves_41 rfl ?_
            refine g_istore dX10_moves_42 (by decide) (fun x6_16 ex6_16 => g_sub (lv' := [(0, .ref (D.2.2 10 r0)), (1, .int x1), (2, .int x2), (3, .int x3), (4, .int x4_14), (5, .int x5_15), (6, .int x6_16)]) [1, 2, 3, 4, 5, 6, 0] rfl ?_)
            have h := h x6_16 ex6_16
            exact g_sub [0, 1, 2, 3, 4, 5, 6] rfl h
          · have h := h.2 c_13
            refine g_iconst (-1 : Int32) dX10_moves_33 rfl ?_
            exact g_iret dX10_moves_34 rfl rfl ⟨_, rfl, h⟩
set_option maxRecDepth 20000 in
set_option maxHeartbeats 4000000 in
theorem bl_X10_moves_1 {l : Launch} {D : gD} {d : Nat} {q : Int32 → gMem → Prop} {Γ : gC} {r0 : Nat} {x1 : Int32} {x2 : Int32} {x3 : Int32} {x4 : Int32} {x5 : Int32} {x6 : Int32} {μ : gMem} (hr0 : r0 < 1) (h : (((99 : Int32) < x6) → ((¬ x3 = 0) → q x5 μ) ∧ ((x3 = 0) → q x4 μ)) ∧ ((¬ (99 : Int32) < x6) → ∃ (d_3 : Nat) (q_4 : gMem → Prop), d_3 < d ∧ Ctr l D d_3 yX10_copies cX10_copies 6 none [.ref (D.2.2 10 r0), .int (1 : Int32), .int (0 : Int32)] μ (pV q_4) ∧ ∀ (μ_7 : gMem), q_4 μ_7 → ∃ j_10 : Nat, j_10 < 115 ∧ (5 : Int32) + x1 = nI j_10 ∧ (∀ μ_11 : gMem, μ_11 = gsI μ_7 740 r0 j_10 x6 → ∀ x7_12 : Int32, x7_12 = (0 : Int32) → pt_X10_moves_2 l D d q Γ r0 x1 x2 x3 x4 x5 x6 x7_12 μ_11))) : pt_X10_moves_1 l D d q Γ r0 x1 x2 x3 x4 x5 x6 μ := by
  unfold pt_X10_moves_1
  refine g_iload dX10_moves_44 rfl ?_
  refine g_bipush (99 : Int32) dX10_moves_46 rfl ?_
  refine g_icmp_gt (tgt := 129) dX10_moves_48 (by decide) (fun c_1 => ?_) (fun c_1 => ?_)
  · have h := h.1 c_1
    refine g_iload_n dX10_moves_129 rfl ?_
    refine g_if_ne (tgt := 138) dX10_moves_130 (by decide) (fun c_2 => ?_) (fun c_2 => ?_)
    · have h := h.1 c_2
      refine g_iload dX10_moves_138 rfl ?_
      exact g_iret dX10_moves_140 rfl rfl ⟨_, rfl, h⟩
    · have h := h.2 c_2
      refine g_iload dX10_moves_133 rfl ?_
      refine g_goto (tgt := 140) dX10_moves_135 (by decide) ?_
      exact g_iret dX10_moves_140 rfl rfl ⟨_, rfl, h⟩
  · have h := h.2 c_1
    refine g_aload_n dX10_moves_51 rfl ?_
    refine g_iconst (1 : Int32) dX10_moves_52 rfl ?_
    refine g_iconst (0 : Int32) dX10_moves_53 rfl ?_
    obtain ⟨d_3, q_4, hd_5, hc_6, h⟩ := h
    refine g_cV ca_X10_387 ob_10 hc_6 hd_5 (by decide) hr0 rfl rfl (by first | exact Nat.le_of_ble_eq_true rfl | decide) dX10_moves_54 (kV (fun μ_7 hq_9 => ?_))
    have h := h μ_7 hq_9
    refine g_aload_n dX10_moves_57 rfl ?_
    refine g_gfR fl_10_75 rfl hr0 dX10_moves_58 ?_
    refine g_iconst (5 : Int32) dX10_moves_61 rfl ?_
    refine g_iload_n dX10_moves_62 rfl ?_
    refine g_iadd dX10_moves_63 ?_
    refine g_iload dX10_moves_64 rfl ?_
    obtain ⟨j_10, hj_10, ej_10, h⟩ := h
    refine g_iast j_10 hr0 rfl hj_10 (by decide) ej_10 dX10_moves_66 ?_
    obtain ⟨μ_11, eμ_11⟩ : ∃ z : gMem, z = gsI μ_7 740 r0 j_10 x6 := ⟨_, rfl⟩
    have h := h μ_11 eμ_11
    refine g_mem eμ_11.symm ?_
    refine g_iconst (0 : Int32) dX10_moves_67 rfl ?_
    refine g_istore dX10_moves_68 (by decide) (fun x7_12 ex7_12 => g_sub (lv' := [(0, .ref (D.2.2 10 r0)), (1, .int x1), (2, .int x2), (3, .int x3), (4, .int x4), (5, .int x5), (6, .int x6), (7, .int x7_12)]) [1, 2, 3, 4, 5, 6, 7, 0] rfl ?_)
    have h := h x7_12 ex7_12
    exact g_sub [0, 1, 2, 3, 4, 5, 6, 7] rfl h
set_option maxRecDepth 20000 in
set_option maxHeartbeats 4000000 in
theorem bl_X10_moves_2 {l : Launch} {D : gD} {d : Nat} {q : Int32 → gMem → Prop} {Γ : gC} {r0 : Nat} {x1 : Int32} {x2 : Int32} {x3 : Int32} {x4 : Int32} {x5 : Int32} {x6 : Int32} {x7 : Int32} {μ : gMem} (hr0 : r0 < 1) (h : ((x2 ≤ x7) → ∃ j_2 : Nat, j_2 < 115 ∧ (5 : Int32) + x1 = nI j_2 ∧ (∃ j_3 : Nat, j_3 < 115 ∧ x1 = nI j_3 ∧ (∀ x7_4 : Int32, x7_4 = (μ.1 745 r0 j_2) - (μ.1 745 r0 j_3) → ((x5 < x7_4) → ∀ x4_6 : Int32, x4_6 = x6 → ∀ x5_7 : Int32, x5_7 = x7_4 → pt_X10_moves_3 l D d q Γ r0 x1 x2 x3 x4_6 x5_7 x6 μ) ∧ ((¬ x5 < x7_4) → pt_X10_moves_3 l D d q Γ r0 x1 x2 x3 x4 x5 x6 μ)))) ∧ ((¬ x2 ≤ x7) → ∃ (d_8 : Nat) (q_9 : gMem → Prop), d_8 < d ∧ Ctr l D d_8 yX10_passes cX10_passes 6 none [.ref (D.2.2 10 r0), .int (1 : Int32), .int (0 : Int32)] μ (pV q_9) ∧ ∀ (μ_12 : gMem), q_9 μ_12 → ∀ x7_15 : Int32, x7_15 = x7 + (1 : Int32) → pt_X10_moves_2 l D d q Γ r0 x1 x2 x3 x4 x5 x6 x7_15 μ_12)) : pt_X10_moves_2 l D d q Γ r0 x1 x2 x3 x4 x5 x6 x7 μ := by
  unfold pt_X10_moves_2
  refine g_iload dX10_moves_70 rfl ?_
  refine g_iload_n dX10_moves_72 rfl ?_
  refine g_icmp_ge (tgt := 88) dX10_moves_73 (by decide) (fun c_1 => ?_) (fun c_1 => ?_)
  · have h := h.1 c_1
    refine g_aload_n dX10_moves_88 rfl ?_
    refine g_gfR fl_10_90 rfl hr0 dX10_moves_89 ?_
    refine g_iconst (5 : Int32) dX10_moves_92 rfl ?_
    refine g_iload_n dX10_moves_93 rfl ?_
    refine g_iadd dX10_moves_94 ?_
    obtain ⟨j_2, hj_2, ej_2, h⟩ := h
    refine g_iald j_2 hr0 rfl hj_2 (by decide) ej_2 dX10_moves_95 ?_
    refine g_aload_n dX10_moves_96 rfl ?_
    refine g_gfR fl_10_90 rfl hr0 dX10_moves_97 ?_
    refine g_iload_n dX10_moves_100 rfl ?_
    obtain ⟨j_3, hj_3, ej_3, h⟩ := h
    refine g_iald j_3 hr0 rfl hj_3 (by decide) ej_3 dX10_moves_101 ?_
    refine g_isub dX10_moves_102 ?_
    refine g_istore dX10_moves_103 (by decide) (fun x7_4 ex7_4 => g_sub (lv' := [(0, .ref (D.2.2 10 r0)), (1, .int x1), (2, .int x2), (3, .int x3), (4, .int x4), (5, .int x5), (6, .int x6), (7, .int x7_4)]) [1, 2, 3, 4, 5, 6, 7, 0] rfl ?_)
    have h := h x7_4 ex7_4
    refine g_iload dX10_moves_105 rfl ?_
    refine g_iload dX10_moves_107 rfl ?_
    refine g_icmp_gt (tgt := 115) dX10_moves_109 (by decide) (fun c_5 => ?_) (fun c_5 => ?_)
    · have h := h.1 c_5
      refine g_iload dX10_moves_115 rfl ?_
      refine g_istore dX10_moves_117 (by decide) (fun x4_6 ex4_6 => g_sub (lv' := [(0, .ref (D.2.2 10 r0)), (1, .int x1), (2, .int x2), (3, .int x3), (4, .int x4_6), (6, .int x6), (7, .int x7_4)]) [1, 2, 3, 4, 0, 6, 7] rfl ?_)
      have h := h x4_6 ex4_6
      refine g_iload dX10_moves_119 rfl ?_
      refine g_istore dX10_moves_121 (by decide) (fun x5_7 ex5_7 => g_sub (lv' := [(0, .ref (D.2.2 10 r0)), (1, .int x1), (2, .int x2), (3, .int x3), (4, .int x4_6), (5, .int x5_7), (6, .int x6)]) [1, 2, 3, 4, 5, 0, 6] rfl ?_)
      have h := h x5_7 ex5_7
      exact g_sub [0, 1, 2, 3, 4, 5, 6] rfl h
    · have h := h.2 c_5
      refine g_goto (tgt := 123) dX10_moves_112 (by decide) ?_
      exact g_sub [0, 1, 2, 3, 4, 5, 6] rfl h
  · have h := h.2 c_1
    refine g_aload_n dX10_moves_76 rfl ?_
    refine g_iconst (1 : Int32) dX10_moves_77 rfl ?_
    refine g_iconst (0 : Int32) dX10_moves_78 rfl ?_
    obtain ⟨d_8, q_9, hd_10, hc_11, h⟩ := h
    refine g_cV ca_X10_390 ob_10 hc_11 hd_10 (by decide) hr0 rfl rfl (by first | exact Nat.le_of_ble_eq_true rfl | decide) dX10_moves_79 (kV (fun μ_12 hq_14 => ?_))
    have h := h μ_12 hq_14
    refine g_iinc dX10_moves_82 rfl (by decide) (fun x7_15 ex7_15 => g_sub (lv' := [(0, .ref (D.2.2 10 r0)), (1, .int x1), (2, .int x2), (3, .int x3), (4, .int x4), (5, .int x5), (6, .int x6), (7, .int x7_15)]) [1, 2, 3, 4, 5, 6, 7, 0] rfl ?_)
    have h := h x7_15 ex7_15
    refine g_goto (tgt := 70) dX10_moves_85 (by decide) ?_
    exact g_sub [0, 1, 2, 3, 4, 5, 6, 7] rfl h
set_option maxRecDepth 20000 in
set_option maxHeartbeats 4000000 in
theorem bl_X10_moves_3 {l : Launch} {D : gD} {d : Nat} {q : Int32 → gMem → Prop} {Γ : gC} {r0 : Nat} {x1 : Int32} {x2 : Int32} {x3 : Int32} {x4 : Int32} {x5 : Int32} {x6 : Int32} {μ : gMem} (hr0 : r0 < 1) (h : ∀ x6_1 : Int32, x6_1 = x6 + (1 : Int32) → pt_X10_moves_1 l D d q Γ r0 x1 x2 x3 x4 x5 x6_1 μ) : pt_X10_moves_3 l D d q Γ r0 x1 x2 x3 x4 x5 x6 μ := by
  unfold pt_X10_moves_3
  refine g_iinc dX10_moves_123 rfl (by decide) (fun x6_1 ex6_1 => g_sub (lv' := [(0, .ref (D.2.2 10 r0)), (1, .int x1), (2, .int x2), (3, .int x3), (4, .int x4), (5, .int x5), (6, .int x6_1)]) [1, 2, 3, 4, 5, 6, 0] rfl ?_)
  have h := h x6_1 ex6_1
  refine g_goto (tgt := 44) dX10_moves_126 (by decide) ?_
  exact g_sub [0, 1, 2, 3, 4, 5, 6] rfl h
theorem en_X10_moves {l : Launch} {D : gD} {d : Nat} {q : Int32 → gMem → Prop} {r0 : Nat} {x1 : Int32} {x2 : Int32} {x3 : Int32} {μ : gMem} (h : ∀ Γ : gC, pt_X10_moves_0 l D d q Γ r0 x1 x2 x3 μ) : Ctr l D d yX10_moves cX10_moves 8 (some .int) [.ref (D.2.2 10 r0), .int x1, .int x2, .int x3] μ (pI q) :=
  Ctr_of rfl (by decide) (Nat.le_of_ble_eq_true rfl) (fun Γ => g_sub [0, 1, 2, 3] rfl (h Γ))
def pt_X10_fives_0 (l : Launch) (D : gD) (d : Nat) (q : Int32 → gMem → Prop) (Γ : gC) (x0 : Int32) (μ : gMem) : Prop := G l D RX10 cX10_fives 3 (some .int) d (pI q) Γ 0 [(0, .int x0)] [] μ
def pt_X10_fives_1 (l : Launch) (D : gD) (d : Nat) (q : Int32 → gMem → Prop) (Γ : gC) (x0 : Int32) (x1 : Int32) (x2 : Int32) (μ : gMem) : Prop := G l D RX10 cX10_fives 3 (some .int) d (pI q) Γ 4 [(0, .int x0), (1, .int x1), (2, .int x2)] [] μ
set_option maxRecDepth 20000 in
set_option maxHeartbeats 4000000 in
theorem bl_X10_fives_0 {l : Launch} {D : gD} {d : Nat} {q : Int32 → gMem → Prop} {Γ : gC} {x0 : Int32} {μ : gMem}  (h : ∀ x1_1 : Int32, x1_1 = (1 : Int32) → ∀ x2_2 : Int32, x2_2 = (0 : Int32) → pt_X10_fives_1 l D d q Γ x0 x1_1 x2_2 μ) : pt_X10_fives_0 l D d q Γ x0 μ := by
  unfold pt_X10_fives_0
  refine g_iconst (1 : Int32) dX10_fives_0 rfl ?_
  refine g_istore_n dX10_fives_1 (by decide) (fun x1_1 ex1_1 => g_sub (lv' := [(0, .int x0), (1, .int x1_1)]) [1, 0] rfl ?_)
  have h := h x1_1 ex1_1
  refine g_iconst (0 : Int32) dX10_fives_2 rfl ?_
  refine g_istore_n dX10_fives_3 (by decide) (fun x2_2 ex2_2 => g_sub (lv' := [(0, .int x0), (1, .int x1_1), (2, .int x2_2)]) [1, 2, 0] rfl ?_)
  have h := h x2_2 ex2_2
  exact g_sub [0, 1, 2] rfl h
set_option maxRecDepth 20000 in
set_option maxHeartbeats 4000000 in
theorem bl_X10_fives_1 {l : Launch} {D : gD} {d : Nat} {q : Int32 → gMem → Prop} {Γ : gC} {x0 : Int32} {x1 : Int32} {x2 : Int32} {μ : gMem}  (h : ((x0 ≤ x2) → q x1 μ) ∧ ((¬ x0 ≤ x2) → ∀ x1_2 : Int32, x1_2 = x1 * (5 : Int32) → ∀ x2_3 : Int32, x2_3 = x2 + (1 : Int32) → pt_X10_fives_1 l D d q Γ x0 x1_2 x2_3 μ)) : pt_X10_fives_1 l D d q Γ x0 x1 x2 μ := by
  unfold pt_X10_fives_1
  refine g_iload_n dX10_fives_4 rfl ?_
  refine g_iload_n dX10_fives_5 rfl ?_
  refine g_icmp_ge (tgt := 19) dX10_fives_6 (by decide) (fun c_1 => ?_) (fun c_1 => ?_)
  · have h := h.1 c_1
    refine g_iload_n dX10_fives_19 rfl ?_
    exact g_iret dX10_fives_20 rfl rfl ⟨_, rfl, h⟩
  · have h := h.2 c_1
    refine g_iload_n dX10_fives_9 rfl ?_
    refine g_iconst (5 : Int32) dX10_fives_10 rfl ?_
    refine g_imul dX10_fives_11 ?_
    refine g_istore_n dX10_fives_12 (by decide) (fun x1_2 ex1_2 => g_sub (lv' := [(0, .int x0), (1, .int x1_2), (2, .int x2)]) [1, 0, 2] rfl ?_)
    have h := h x1_2 ex1_2
    refine g_iinc dX10_fives_13 rfl (by decide) (fun x2_3 ex2_3 => g_sub (lv' := [(0, .int x0), (1, .int x1_2), (2, .int x2_3)]) [1, 2, 0] rfl ?_)
    have h := h x2_3 ex2_3
    refine g_goto (tgt := 4) dX10_fives_16 (by decide) ?_
    exact g_sub [0, 1, 2] rfl h
theorem en_X10_fives {l : Launch} {D : gD} {d : Nat} {q : Int32 → gMem → Prop} {x0 : Int32} {μ : gMem} (h : ∀ Γ : gC, pt_X10_fives_0 l D d q Γ x0 μ) : Ctr l D d yX10_fives cX10_fives 3 (some .int) [.int x0] μ (pI q) :=
  Ctr_of rfl (by decide) (Nat.le_of_ble_eq_true rfl) (fun Γ => g_sub [0] rfl (h Γ))
