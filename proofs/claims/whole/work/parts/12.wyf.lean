def pt_X10_chance_0 (l : Launch) (D : gD) (d : Nat) (q : Int32 → gMem → Prop) (Γ : gC) (r0 : Nat) (x1 : Int32) (x2 : Int32) (x3 : Int32) (x4 : Int32) (μ : gMem) : Prop := G l D RX10 cX10_chance 9 (some .int) d (pI q) Γ 0 [(0, .ref (D.2.2 10 r0)), (1, .int x1), (2, .int x2), (3, .int x3), (4, .int x4)] [] μ
def pt_X10_chance_1 (l : Launch) (D : gD) (d : Nat) (q : Int32 → gMem → Prop) (Γ : gC) (r0 : Nat) (x2 : Int32) (x3 : Int32) (x4 : Int32) (x5 : Int32) (x6 : Int32) (x7 : Int32) (μ : gMem) : Prop := G l D RX10 cX10_chance 9 (some .int) d (pI q) Γ 51 [(0, .ref (D.2.2 10 r0)), (2, .int x2), (3, .int x3), (4, .int x4), (5, .int x5), (6, .int x6), (7, .int x7)] [] μ
def pt_X10_chance_2 (l : Launch) (D : gD) (d : Nat) (q : Int32 → gMem → Prop) (Γ : gC) (r0 : Nat) (x2 : Int32) (x3 : Int32) (x4 : Int32) (x6 : Int32) (x7 : Int32) (x8 : Int32) (μ : gMem) : Prop := G l D RX10 cX10_chance 9 (some .int) d (pI q) Γ 75 [(0, .ref (D.2.2 10 r0)), (2, .int x2), (3, .int x3), (4, .int x4), (6, .int x6), (7, .int x7), (8, .int x8)] [] μ
def pt_X10_chance_3 (l : Launch) (D : gD) (d : Nat) (q : Int32 → gMem → Prop) (Γ : gC) (r0 : Nat) (x2 : Int32) (x3 : Int32) (x4 : Int32) (x5 : Int32) (x7 : Int32) (xs0 : Int32) (xs1 : Int32) (μ : gMem) : Prop := G l D RX10 cX10_chance 9 (some .int) d (pI q) Γ 121 [(0, .ref (D.2.2 10 r0)), (2, .int x2), (3, .int x3), (4, .int x4), (5, .int x5), (7, .int x7)] [.int xs1, .int xs0] μ
set_option maxRecDepth 20000 in
set_option maxHeartbeats 4000000 in
theorem bl_X10_chance_0 {l : Launch} {D : gD} {d : Nat} {q : Int32 → gMem → Prop} {Γ : gC} {r0 : Nat} {x1 : Int32} {x2 : Int32} {x3 : Int32} {x4 : Int32} {μ : gMem} (hr0 : r0 < 1) (h : ∀ μ_1 : gMem, μ_1 = gsI μ 10 r0 0 (0 : Int32) → ((x1 < 0) → q (-1 : Int32) μ_1) ∧ ((¬ x1 < 0) → ((x2 < (1 : Int32)) → q (-1 : Int32) μ_1) ∧ ((¬ x2 < (1 : Int32)) → (((60 : Int32) < x2) → q (-1 : Int32) μ_1) ∧ ((¬ (60 : Int32) < x2) → (0 < d) ∧ ((((isn x3 (μ_1.1 707 r0 0)) = 0) → q (-1 : Int32) μ_1) ∧ ((¬ (isn x3 (μ_1.1 707 r0 0)) = 0) → ((x4 < 0) → q (-1 : Int32) μ_1) ∧ ((¬ x4 < 0) → ((x4 ≤ (99 : Int32)) → ∀ x5_12 : Int32, x5_12 = x1 → ∀ x6_13 : Int32, x6_13 = (0 : Int32) → ∀ x7_14 : Int32, x7_14 = (0 : Int32) → pt_X10_chance_1 l D d q Γ r0 x2 x3 x4 x5_12 x6_13 x7_14 μ_1) ∧ ((¬ x4 ≤ (99 : Int32)) → q (-1 : Int32) μ_1)))))))) : pt_X10_chance_0 l D d q Γ r0 x1 x2 x3 x4 μ := by
  unfold pt_X10_chance_0
  refine g_aload_n dX10_chance_0 rfl ?_
  refine g_iconst (0 : Int32) dX10_chance_1 rfl ?_
  refine g_pfI fi_10_145 hr0 rfl rfl dX10_chance_2 ?_
  obtain ⟨μ_1, eμ_1⟩ : ∃ z : gMem, z = gsI μ 10 r0 0 (0 : Int32) := ⟨_, rfl⟩
  have h := h μ_1 eμ_1
  refine g_mem eμ_1.symm ?_
  refine g_iload_n dX10_chance_5 rfl ?_
  refine g_if_lt (tgt := 40) dX10_chance_6 (by decide) (fun c_2 => ?_) (fun c_2 => ?_)
  · have h := h.1 c_2
    refine g_iconst (-1 : Int32) dX10_chance_40 rfl ?_
    exact g_iret dX10_chance_41 rfl rfl ⟨_, rfl, h⟩
  · have h := h.2 c_2
    refine g_iload_n dX10_chance_9 rfl ?_
    refine g_iconst (1 : Int32) dX10_chance_10 rfl ?_
    refine g_icmp_lt (tgt := 40) dX10_chance_11 (by decide) (fun c_3 => ?_) (fun c_3 => ?_)
    · have h := h.1 c_3
      refine g_iconst (-1 : Int32) dX10_chance_40 rfl ?_
      exact g_iret dX10_chance_41 rfl rfl ⟨_, rfl, h⟩
    · have h := h.2 c_3
      refine g_iload_n dX10_chance_14 rfl ?_
      refine g_bipush (60 : Int32) dX10_chance_15 rfl ?_
      refine g_icmp_gt (tgt := 40) dX10_chance_17 (by decide) (fun c_4 => ?_) (fun c_4 => ?_)
      · have h := h.1 c_4
        refine g_iconst (-1 : Int32) dX10_chance_40 rfl ?_
        exact g_iret dX10_chance_41 rfl rfl ⟨_, rfl, h⟩
      · have h := h.2 c_4
        refine g_aload_n dX10_chance_20 rfl ?_
        refine g_iload_n dX10_chance_21 rfl ?_
        obtain ⟨hd_5, h⟩ := h
        refine g_cV ca_X10_394 ob_10 (c_X10_isMan (d := 0) (Nat.le_refl _) hr0 ) hd_5 (by decide) hr0 rfl rfl (by first | exact Nat.le_of_ble_eq_true rfl | decide) dX10_chance_22 (kI (fun v_6 μ_7 hq_8 => ?_))
        obtain ⟨ev_6, eμ_7⟩ := hq_8
        subst ev_6
        refine g_mem eμ_7 ?_
        refine g_if_eq (tgt := 40) dX10_chance_25 (by decide) (fun c_9 => ?_) (fun c_9 => ?_)
        · have h := h.1 c_9
          refine g_iconst (-1 : Int32) dX10_chance_40 rfl ?_
          exact g_iret dX10_chance_41 rfl rfl ⟨_, rfl, h⟩
        · have h := h.2 c_9
          refine g_iload dX10_chance_28 rfl ?_
          refine g_if_lt (tgt := 40) dX10_chance_30 (by decide) (fun c_10 => ?_) (fun c_10 => ?_)
          · have h := h.1 c_10
            refine g_iconst (-1 : Int32) dX10_chance_40 rfl ?_
            exact g_iret dX10_chance_41 rfl rfl ⟨_, rfl, h⟩
          · have h := h.2 c_10
            refine g_iload dX10_chance_33 rfl ?_
            refine g_bipush (99 : Int32) dX10_chance_35 rfl ?_
            refine g_icmp_le (tgt := 42) dX10_chance_37 (by decide) (fun c_11 => ?_) (fun c_11 => ?_)
            · have h := h.1 c_11
              refine g_iload_n dX10_chance_42 rfl ?_
              refine g_istore dX10_chance_43 (by decide) (fun x5_12 ex5_12 => g_sub (lv' := [(0, .ref (D.2.2 10 r0)), (2, .int x2), (3, .int x3), (4, .int x4), (5, .int x5_12)]) [1, 3, 4, 5, 0] rfl ?_)
              have h := h x5_12 ex5_12
              refine g_iconst (0 : Int32) dX10_chance_45 rfl ?_
              refine g_istore dX10_chance_46 (by decide) (fun x6_13 ex6_13 => g_sub (lv' := [(0, .ref (D.2.2 10 r0)), (2, .int x2), (3, .int x3), (4, .int x4), (5, .int x5_12), (6, .int x6_13)]) [1, 2, 3, 4, 5, 0] rfl ?_)
              have h := h x6_13 ex6_13
              refine g_iconst (0 : Int32) dX10_chance_48 rfl ?_
              refine g_istore dX10_chance_49 (by decide) (fun x7_14 ex7_14 => g_sub (lv' := [(0, .ref (D.2.2 10 r0)), (2, .int x2), (3, .int x3), (4, .int x4), (5, .int x5_12), (6, .int x6_13), (7, .int x7_14)]) [1, 2, 3, 4, 5, 6, 0] rfl ?_)
              have h := h x7_14 ex7_14
              exact g_sub [0, 1, 2, 3, 4, 5, 6] rfl h
            · have h := h.2 c_11
              refine g_iconst (-1 : Int32) dX10_chance_40 rfl ?_
              exact g_iret dX10_chance_41 rfl rfl ⟨_, rfl, h⟩
set_option maxRecDepth 20000 in
set_option maxHeartbeats 4000000 in
theorem bl_X10_chance_1 {l : Launch} {D : gD} {d : Nat} {q : Int32 → gMem → Prop} {Γ : gC} {r0 : Nat} {x2 : Int32} {x3 : Int32} {x4 : Int32} {x5 : Int32} {x6 : Int32} {x7 : Int32} {μ : gMem} (hr0 : r0 < 1) (h : (((10 : Int32) ≤ x7) → q x6 μ) ∧ ((¬ (10 : Int32) ≤ x7) → ∃ (d_2 : Nat) (q_3 : gMem → Prop), d_2 < d ∧ Ctr l D d_2 yX10_copies cX10_copies 6 none [.ref (D.2.2 10 r0), .int (1 : Int32), .int (0 : Int32)] μ (pV q_3) ∧ ∀ (μ_6 : gMem), q_3 μ_6 → ∀ μ_10 : gMem, μ_10 = gsI μ_6 739 r0 1 x5 → ∀ x8_11 : Int32, x8_11 = (0 : Int32) → pt_X10_chance_2 l D d q Γ r0 x2 x3 x4 x6 x7 x8_11 μ_10)) : pt_X10_chance_1 l D d q Γ r0 x2 x3 x4 x5 x6 x7 μ := by
  unfold pt_X10_chance_1
  refine g_iload dX10_chance_51 rfl ?_
  refine g_bipush (10 : Int32) dX10_chance_53 rfl ?_
  refine g_icmp_ge (tgt := 130) dX10_chance_55 (by decide) (fun c_1 => ?_) (fun c_1 => ?_)
  · have h := h.1 c_1
    refine g_iload dX10_chance_130 rfl ?_
    exact g_iret dX10_chance_132 rfl rfl ⟨_, rfl, h⟩
  · have h := h.2 c_1
    refine g_aload_n dX10_chance_58 rfl ?_
    refine g_iconst (1 : Int32) dX10_chance_59 rfl ?_
    refine g_iconst (0 : Int32) dX10_chance_60 rfl ?_
    obtain ⟨d_2, q_3, hd_4, hc_5, h⟩ := h
    refine g_cV ca_X10_387 ob_10 hc_5 hd_4 (by decide) hr0 rfl rfl (by first | exact Nat.le_of_ble_eq_true rfl | decide) dX10_chance_61 (kV (fun μ_6 hq_8 => ?_))
    have h := h μ_6 hq_8
    refine g_aload_n dX10_chance_64 rfl ?_
    refine g_gfR fl_10_72 rfl hr0 dX10_chance_65 ?_
    refine g_iconst (1 : Int32) dX10_chance_68 rfl ?_
    refine g_iload dX10_chance_69 rfl ?_
    refine g_iast 1 hr0 rfl (by decide) (by decide) rfl dX10_chance_71 ?_
    obtain ⟨μ_10, eμ_10⟩ : ∃ z : gMem, z = gsI μ_6 739 r0 1 x5 := ⟨_, rfl⟩
    have h := h μ_10 eμ_10
    refine g_mem eμ_10.symm ?_
    refine g_iconst (0 : Int32) dX10_chance_72 rfl ?_
    refine g_istore dX10_chance_73 (by decide) (fun x8_11 ex8_11 => g_sub (lv' := [(0, .ref (D.2.2 10 r0)), (2, .int x2), (3, .int x3), (4, .int x4), (6, .int x6), (7, .int x7), (8, .int x8_11)]) [1, 2, 3, 4, 6, 7, 0] rfl ?_)
    have h := h x8_11 ex8_11
    exact g_sub [0, 1, 2, 3, 4, 5, 6] rfl h
set_option maxRecDepth 20000 in
set_option maxHeartbeats 4000000 in
theorem bl_X10_chance_2 {l : Launch} {D : gD} {d : Nat} {q : Int32 → gMem → Prop} {Γ : gC} {r0 : Nat} {x2 : Int32} {x3 : Int32} {x4 : Int32} {x6 : Int32} {x7 : Int32} {x8 : Int32} {μ : gMem} (hr0 : r0 < 1) (h : ((x2 ≤ x8) → ∀ x5_3 : Int32, x5_3 = μ.1 739 r0 1 → ∃ j_4 : Nat, j_4 < 115 ∧ (5 : Int32) + x3 = nI j_4 ∧ ((((μ.1 742 r0 j_4) < x4) → pt_X10_chance_3 l D d q Γ r0 x2 x3 x4 x5_3 x7 x6 (0 : Int32) μ) ∧ ((¬ (μ.1 742 r0 j_4) < x4) → pt_X10_chance_3 l D d q Γ r0 x2 x3 x4 x5_3 x7 x6 (1 : Int32) μ))) ∧ ((¬ x2 ≤ x8) → ∃ (d_6 : Nat) (q_7 : gMem → Prop), d_6 < d ∧ Ctr l D d_6 yX10_passes cX10_passes 6 none [.ref (D.2.2 10 r0), .int (1 : Int32), .int (1 : Int32)] μ (pV q_7) ∧ ∀ (μ_10 : gMem), q_7 μ_10 → ∀ x8_13 : Int32, x8_13 = x8 + (1 : Int32) → pt_X10_chance_2 l D d q Γ r0 x2 x3 x4 x6 x7 x8_13 μ_10)) : pt_X10_chance_2 l D d q Γ r0 x2 x3 x4 x6 x7 x8 μ := by
  unfold pt_X10_chance_2
  refine g_iload dX10_chance_75 rfl ?_
  refine g_iload_n dX10_chance_77 rfl ?_
  refine g_icmp_ge (tgt := 93) dX10_chance_78 (by decide) (fun c_1 => ?_) (fun c_1 => ?_)
  · have h := h.1 c_1
    refine g_aload_n dX10_chance_93 rfl ?_
    refine g_gfR fl_10_72 rfl hr0 dX10_chance_94 ?_
    refine g_iconst (1 : Int32) dX10_chance_97 rfl ?_
    refine g_iald 1 hr0 rfl (by decide) (by decide) rfl dX10_chance_98 ?_
    refine g_istore dX10_chance_99 (by decide) (fun x5_3 ex5_3 => g_sub (lv' := [(0, .ref (D.2.2 10 r0)), (2, .int x2), (3, .int x3), (4, .int x4), (5, .int x5_3), (6, .int x6), (7, .int x7)]) [1, 2, 3, 4, 0, 5, 6] rfl ?_)
    have h := h x5_3 ex5_3
    refine g_iload dX10_chance_101 rfl ?_
    refine g_aload_n dX10_chance_103 rfl ?_
    refine g_gfR fl_10_81 rfl hr0 dX10_chance_104 ?_
    refine g_iconst (5 : Int32) dX10_chance_107 rfl ?_
    refine g_iload_n dX10_chance_108 rfl ?_
    refine g_iadd dX10_chance_109 ?_
    obtain ⟨j_4, hj_4, ej_4, h⟩ := h
    refine g_iald j_4 hr0 rfl hj_4 (by decide) ej_4 dX10_chance_110 ?_
    refine g_iload dX10_chance_111 rfl ?_
    refine g_icmp_lt (tgt := 120) dX10_chance_113 (by decide) (fun c_5 => ?_) (fun c_5 => ?_)
    · have h := h.1 c_5
      refine g_iconst (0 : Int32) dX10_chance_120 rfl ?_
      exact g_sub [0, 1, 2, 3, 4, 6] rfl h
    · have h := h.2 c_5
      refine g_iconst (1 : Int32) dX10_chance_116 rfl ?_
      refine g_goto (tgt := 121) dX10_chance_117 (by decide) ?_
      exact g_sub [0, 1, 2, 3, 4, 6] rfl h
  · have h := h.2 c_1
    refine g_aload_n dX10_chance_81 rfl ?_
    refine g_iconst (1 : Int32) dX10_chance_82 rfl ?_
    refine g_iconst (1 : Int32) dX10_chance_83 rfl ?_
    obtain ⟨d_6, q_7, hd_8, hc_9, h⟩ := h
    refine g_cV ca_X10_390 ob_10 hc_9 hd_8 (by decide) hr0 rfl rfl (by first | exact Nat.le_of_ble_eq_true rfl | decide) dX10_chance_84 (kV (fun μ_10 hq_12 => ?_))
    have h := h μ_10 hq_12
    refine g_iinc dX10_chance_87 rfl (by decide) (fun x8_13 ex8_13 => g_sub (lv' := [(0, .ref (D.2.2 10 r0)), (2, .int x2), (3, .int x3), (4, .int x4), (6, .int x6), (7, .int x7), (8, .int x8_13)]) [1, 2, 3, 4, 5, 6, 0] rfl ?_)
    have h := h x8_13 ex8_13
    refine g_goto (tgt := 75) dX10_chance_90 (by decide) ?_
    exact g_sub [0, 1, 2, 3, 4, 5, 6] rfl h
set_option maxRecDepth 20000 in
set_option maxHeartbeats 4000000 in
theorem bl_X10_chance_3 {l : Launch} {D : gD} {d : Nat} {q : Int32 → gMem → Prop} {Γ : gC} {r0 : Nat} {x2 : Int32} {x3 : Int32} {x4 : Int32} {x5 : Int32} {x7 : Int32} {xs0 : Int32} {xs1 : Int32} {μ : gMem} (hr0 : r0 < 1) (h : ∀ x6_1 : Int32, x6_1 = xs0 + xs1 → ∀ x7_2 : Int32, x7_2 = x7 + (1 : Int32) → pt_X10_chance_1 l D d q Γ r0 x2 x3 x4 x5 x6_1 x7_2 μ) : pt_X10_chance_3 l D d q Γ r0 x2 x3 x4 x5 x7 xs0 xs1 μ := by
  unfold pt_X10_chance_3
  refine g_iadd dX10_chance_121 ?_
  refine g_istore dX10_chance_122 (by decide) (fun x6_1 ex6_1 => g_sub (lv' := [(0, .ref (D.2.2 10 r0)), (2, .int x2), (3, .int x3), (4, .int x4), (5, .int x5), (6, .int x6_1), (7, .int x7)]) [1, 2, 3, 4, 5, 0, 6] rfl ?_)
  have h := h x6_1 ex6_1
  refine g_iinc dX10_chance_124 rfl (by decide) (fun x7_2 ex7_2 => g_sub (lv' := [(0, .ref (D.2.2 10 r0)), (2, .int x2), (3, .int x3), (4, .int x4), (5, .int x5), (6, .int x6_1), (7, .int x7_2)]) [1, 2, 3, 4, 5, 6, 0] rfl ?_)
  have h := h x7_2 ex7_2
  refine g_goto (tgt := 51) dX10_chance_127 (by decide) ?_
  exact g_sub [0, 1, 2, 3, 4, 5, 6] rfl h
theorem en_X10_chance {l : Launch} {D : gD} {d : Nat} {q : Int32 → gMem → Prop} {r0 : Nat} {x1 : Int32} {x2 : Int32} {x3 : Int32} {x4 : Int32} {μ : gMem} (h : ∀ Γ : gC, pt_X10_chance_0 l D d q Γ r0 x1 x2 x3 x4 μ) : Ctr l D d yX10_chance cX10_chance 9 (some .int) [.ref (D.2.2 10 r0), .int x1, .int x2, .int x3, .int x4] μ (pI q) :=
  Ctr_of rfl (by decide) (Nat.le_of_ble_eq_true rfl) (fun Γ => g_sub [0, 1, 2, 3, 4] rfl (h Γ))
def pt_X10_tried_0 (l : Launch) (D : gD) (d : Nat) (q : Int32 → gMem → Prop) (Γ : gC) (r0 : Nat) (x1 : Int32) (x2 : Int32) (x3 : Int32) (μ : gMem) : Prop := G l D RX10 cX10_tried 5 (some .int) d (pI q) Γ 0 [(0, .ref (D.2.2 10 r0)), (1, .int x1), (2, .int x2), (3, .int x3)] [] μ
def pt_X10_tried_1 (l : Launch) (D : gD) (d : Nat) (q : Int32 → gMem → Prop) (Γ : gC) (r0 : Nat) (x1 : Int32) (x2 : Int32) (x3 : Int32) (μ : gMem) : Prop := G l D RX10 cX10_tried 5 (some .int) d (pI q) Γ 35 [(0, .ref (D.2.2 10 r0)), (1, .int x1), (2, .int x2), (3, .int x3)] [] μ
def pt_X10_tried_2 (l : Launch) (D : gD) (d : Nat) (q : Int32 → gMem → Prop) (Γ : gC) (r0 : Nat) (x1 : Int32) (x2 : Int32) (x3 : Int32) (xs0 : Int32) (μ : gMem) : Prop := G l D RX10 cX10_tried 5 (some .int) d (pI q) Γ 36 [(0, .ref (D.2.2 10 r0)), (1, .int x1), (2, .int x2), (3, .int x3)] [.int xs0] μ
set_option maxRecDepth 20000 in
set_option maxHeartbeats 4000000 in
theorem bl_X10_tried_0 {l : Launch} {D : gD} {d : Nat} {q : Int32 → gMem → Prop} {Γ : gC} {r0 : Nat} {x1 : Int32} {x2 : Int32} {x3 : Int32} {μ : gMem} (hr0 : r0 < 1) (h : ∀ μ_1 : gMem, μ_1 = gsI μ 10 r0 0 (0 : Int32) → ((¬ x1 = (2 : Int32)) → ((x1 < 0) → pt_X10_tried_1 l D d q Γ r0 x1 x2 x3 μ_1) ∧ ((¬ x1 < 0) → (((5 : Int32) < x1) → pt_X10_tried_1 l D d q Γ r0 x1 x2 x3 μ_1) ∧ ((¬ (5 : Int32) < x1) → ((¬ x2 = 0) → pt_X10_tried_1 l D d q Γ r0 x1 x2 x3 μ_1) ∧ ((x2 = 0) → pt_X10_tried_2 l D d q Γ r0 x1 x2 x3 (1 : Int32) μ_1)))) ∧ ((x1 = (2 : Int32)) → (0 < d) ∧ (pt_X10_tried_2 l D d q Γ r0 x1 x2 x3 (isn x2 (μ_1.1 707 r0 0)) μ_1))) : pt_X10_tried_0 l D d q Γ r0 x1 x2 x3 μ := by
  unfold pt_X10_tried_0
  refine g_aload_n dX10_tried_0 rfl ?_
  refine g_iconst (0 : Int32) dX10_tried_1 rfl ?_
  refine g_pfI fi_10_145 hr0 rfl rfl dX10_tried_2 ?_
  obtain ⟨μ_1, eμ_1⟩ : ∃ z : gMem, z = gsI μ 10 r0 0 (0 : Int32) := ⟨_, rfl⟩
  have h := h μ_1 eμ_1
  refine g_mem eμ_1.symm ?_
  refine g_iload_n dX10_tried_5 rfl ?_
  refine g_iconst (2 : Int32) dX10_tried_6 rfl ?_
  refine g_icmp_ne (tgt := 18) dX10_tried_7 (by decide) (fun c_2 => ?_) (fun c_2 => ?_)
  · have h := h.1 c_2
    refine g_iload_n dX10_tried_18 rfl ?_
    refine g_if_lt (tgt := 35) dX10_tried_19 (by decide) (fun c_3 => ?_) (fun c_3 => ?_)
    · have h := h.1 c_3
      exact g_sub [0, 1, 2, 3] rfl h
    · have h := h.2 c_3
      refine g_iload_n dX10_tried_22 rfl ?_
      refine g_iconst (5 : Int32) dX10_tried_23 rfl ?_
      refine g_icmp_gt (tgt := 35) dX10_tried_24 (by decide) (fun c_4 => ?_) (fun c_4 => ?_)
      · have h := h.1 c_4
        exact g_sub [0, 1, 2, 3] rfl h
      · have h := h.2 c_4
        refine g_iload_n dX10_tried_27 rfl ?_
        refine g_if_ne (tgt := 35) dX10_tried_28 (by decide) (fun c_5 => ?_) (fun c_5 => ?_)
        · have h := h.1 c_5
          exact g_sub [0, 1, 2, 3] rfl h
        · have h := h.2 c_5
          refine g_iconst (1 : Int32) dX10_tried_31 rfl ?_
          refine g_goto (tgt := 36) dX10_tried_32 (by decide) ?_
          exact g_sub [0, 1, 2, 3] rfl h
  · have h := h.2 c_2
    refine g_aload_n dX10_tried_10 rfl ?_
    refine g_iload_n dX10_tried_11 rfl ?_
    obtain ⟨hd_6, h⟩ := h
    refine g_cV ca_X10_394 ob_10 (c_X10_isMan (d := 0) (Nat.le_refl _) hr0 ) hd_6 (by decide) hr0 rfl rfl (by first | exact Nat.le_of_ble_eq_true rfl | decide) dX10_tried_12 (kI (fun v_7 μ_8 hq_9 => ?_))
    obtain ⟨ev_7, eμ_8⟩ := hq_9
    subst ev_7
    refine g_mem eμ_8 ?_
    refine g_goto (tgt := 36) dX10_tried_15 (by decide) ?_
    exact g_sub [0, 1, 2, 3] rfl h
set_option maxRecDepth 20000 in
set_option maxHeartbeats 4000000 in
theorem bl_X10_tried_1 {l : Launch} {D : gD} {d : Nat} {q : Int32 → gMem → Prop} {Γ : gC} {r0 : Nat} {x1 : Int32} {x2 : Int32} {x3 : Int32} {μ : gMem} (hr0 : r0 < 1) (h : pt_X10_tried_2 l D d q Γ r0 x1 x2 x3 (0 : Int32) μ) : pt_X10_tried_1 l D d q Γ r0 x1 x2 x3 μ := by
  unfold pt_X10_tried_1
  refine g_iconst (0 : Int32) dX10_tried_35 rfl ?_
  exact g_sub [0, 1, 2, 3] rfl h
set_option maxRecDepth 20000 in
set_option maxHeartbeats 4000000 in
theorem bl_X10_tried_2 {l : Launch} {D : gD} {d : Nat} {q : Int32 → gMem → Prop} {Γ : gC} {r0 : Nat} {x1 : Int32} {x2 : Int32} {x3 : Int32} {xs0 : Int32} {μ : gMem} (hr0 : r0 < 1) (h : ∀ x4_1 : Int32, x4_1 = xs0 → ((x4_1 = 0) → q (-1 : Int32) μ) ∧ ((¬ x4_1 = 0) → ((x3 < 0) → q (-1 : Int32) μ) ∧ ((¬ x3 < 0) → ((x3 ≤ (60 : Int32)) → ∀ μ_5 : gMem, μ_5 = gsI μ 10 r0 51 x1 → ∀ μ_6 : gMem, μ_6 = gsI μ_5 10 r0 52 x2 → ∃ (d_7 : Nat) (q_8 : gMem → Prop), d_7 < d ∧ Ctr l D d_7 yX10_runs cX10_runs 3 none [.ref (D.2.2 10 r0), .int x3] μ_6 (pV q_8) ∧ ∀ (μ_11 : gMem), q_8 μ_11 → ∀ μ_14 : gMem, μ_14 = gsI μ_11 10 r0 51 (0 : Int32) → ∀ μ_15 : gMem, μ_15 = gsI μ_14 10 r0 52 (-1 : Int32) → ∃ (d_16 : Nat) (q_17 : Int32 → gMem → Prop), d_16 < d ∧ Ctr l D d_16 yX10_sumOf cX10_sumOf 5 (some .int) [.ref (D.2.2 10 r0), .ref (D.2.2 745 r0), .int (1 : Int32)] μ_15 (pI q_17) ∧ ∀ (v_21 : Int32) (μ_20 : gMem), q_17 v_21 μ_20 → ∃ (d_23 : Nat) (q_24 : Int32 → gMem → Prop), d_23 < d ∧ Ctr l D d_23 yX10_sumOf cX10_sumOf 5 (some .int) [.ref (D.2.2 10 r0), .ref (D.2.2 745 r0), .int (0 : Int32)] μ_20 (pI q_24) ∧ ∀ (v_28 : Int32) (μ_27 : gMem), q_24 v_28 μ_27 → q (v_21 - v_28) μ_27) ∧ ((¬ x3 ≤ (60 : Int32)) → q (-1 : Int32) μ)))) : pt_X10_tried_2 l D d q Γ r0 x1 x2 x3 xs0 μ := by
  unfold pt_X10_tried_2
  refine g_istore dX10_tried_36 (by decide) (fun x4_1 ex4_1 => g_sub (lv' := [(0, .ref (D.2.2 10 r0)), (1, .int x1), (2, .int x2), (3, .int x3), (4, .int x4_1)]) [1, 2, 3, 4, 0] rfl ?_)
  have h := h x4_1 ex4_1
  refine g_iload dX10_tried_38 rfl ?_
  refine g_if_eq (tgt := 53) dX10_tried_40 (by decide) (fun c_2 => ?_) (fun c_2 => ?_)
  · have h := h.1 c_2
    refine g_iconst (-1 : Int32) dX10_tried_53 rfl ?_
    exact g_iret dX10_tried_54 rfl rfl ⟨_, rfl, h⟩
  · have h := h.2 c_2
    refine g_iload_n dX10_tried_43 rfl ?_
    refine g_if_lt (tgt := 53) dX10_tried_44 (by decide) (fun c_3 => ?_) (fun c_3 => ?_)
    · have h := h.1 c_3
      refine g_iconst (-1 : Int32) dX10_tried_53 rfl ?_
      exact g_iret dX10_tried_54 rfl rfl ⟨_, rfl, h⟩
    · have h := h.2 c_3
      refine g_iload_n dX10_tried_47 rfl ?_
      refine g_bipush (60 : Int32) dX10_tried_48 rfl ?_
      refine g_icmp_le (tgt := 55) dX10_tried_50 (by decide) (fun c_4 => ?_) (fun c_4 => ?_)
      · have h := h.1 c_4
        refine g_aload_n dX10_tried_55 rfl ?_
        refine g_iload_n dX10_tried_56 rfl ?_
        refine g_pfI fi_10_331 hr0 rfl rfl dX10_tried_57 ?_
        obtain ⟨μ_5, eμ_5⟩ : ∃ z : gMem, z = gsI μ 10 r0 51 x1 := ⟨_, rfl⟩
        have h := h μ_5 eμ_5
        refine g_mem eμ_5.symm ?_
        refine g_aload_n dX10_tried_60 rfl ?_
        refine g_iload_n dX10_tried_61 rfl ?_
        refine g_pfI fi_10_111 hr0 rfl rfl dX10_tried_62 ?_
        obtain ⟨μ_6, eμ_6⟩ : ∃ z : gMem, z = gsI μ_5 10 r0 52 x2 := ⟨_, rfl⟩
        have h := h μ_6 eμ_6
        refine g_mem eμ_6.symm ?_
        refine g_aload_n dX10_tried_65 rfl ?_
        refine g_iload_n dX10_tried_66 rfl ?_
        obtain ⟨d_7, q_8, hd_9, hc_10, h⟩ := h
        refine g_cV ca_X10_407 ob_10 hc_10 hd_9 (by decide) hr0 rfl rfl (by first | exact Nat.le_of_ble_eq_true rfl | decide) dX10_tried_67 (kV (fun μ_11 hq_13 => ?_))
        have h := h μ_11 hq_13
        refine g_aload_n dX10_tried_70 rfl ?_
        refine g_iconst (0 : Int32) dX10_tried_71 rfl ?_
        refine g_pfI fi_10_331 hr0 rfl rfl dX10_tried_72 ?_
        obtain ⟨μ_14, eμ_14⟩ : ∃ z : gMem, z = gsI μ_11 10 r0 51 (0 : Int32) := ⟨_, rfl⟩
        have h := h μ_14 eμ_14
        refine g_mem eμ_14.symm ?_
        refine g_aload_n dX10_tried_75 rfl ?_
        refine g_iconst (-1 : Int32) dX10_tried_76 rfl ?_
        refine g_pfI fi_10_111 hr0 rfl rfl dX10_tried_77 ?_
        obtain ⟨μ_15, eμ_15⟩ : ∃ z : gMem, z = gsI μ_14 10 r0 52 (-1 : Int32) := ⟨_, rfl⟩
        have h := h μ_15 eμ_15
        refine g_mem eμ_15.symm ?_
        refine g_aload_n dX10_tried_80 rfl ?_
        refine g_aload_n dX10_tried_81 rfl ?_
        refine g_gfR fl_10_90 rfl hr0 dX10_tried_82 ?_
        refine g_iconst (1 : Int32) dX10_tried_85 rfl ?_
        obtain ⟨d_16, q_17, hd_18, hc_19, h⟩ := h
        refine g_cV ca_X10_441 ob_10 hc_19 hd_18 (by decide) hr0 rfl rfl (by first | exact Nat.le_of_ble_eq_true rfl | decide) dX10_tried_86 (kI (fun v_21 μ_20 hq_22 => ?_))
        have h := h v_21 μ_20 hq_22
        refine g_aload_n dX10_tried_89 rfl ?_
        refine g_aload_n dX10_tried_90 rfl ?_
        refine g_gfR fl_10_90 rfl hr0 dX10_tried_91 ?_
        refine g_iconst (0 : Int32) dX10_tried_94 rfl ?_
        obtain ⟨d_23, q_24, hd_25, hc_26, h⟩ := h
        refine g_cV ca_X10_441 ob_10 hc_26 hd_25 (by decide) hr0 rfl rfl (by first | exact Nat.le_of_ble_eq_true rfl | decide) dX10_tried_95 (kI (fun v_28 μ_27 hq_29 => ?_))
        have h := h v_28 μ_27 hq_29
        refine g_isub dX10_tried_98 ?_
        exact g_iret dX10_tried_99 rfl rfl ⟨_, rfl, h⟩
      · have h := h.2 c_4
        refine g_iconst (-1 : Int32) dX10_tried_53 rfl ?_
        exact g_iret dX10_tried_54 rfl rfl ⟨_, rfl, h⟩
theorem en_X10_tried {l : Launch} {D : gD} {d : Nat} {q : Int32 → gMem → Prop} {r0 : Nat} {x1 : Int32} {x2 : Int32} {x3 : Int32} {μ : gMem} (h : ∀ Γ : gC, pt_X10_tried_0 l D d q Γ r0 x1 x2 x3 μ) : Ctr l D d yX10_tried cX10_tried 5 (some .int) [.ref (D.2.2 10 r0), .int x1, .int x2, .int x3] μ (pI q) :=
  Ctr_of rfl (by decide) (Nat.le_of_ble_eq_true rfl) (fun Γ => g_sub [0, 1, 2, 3] rfl (h Γ))
def pt_X10_undo_0 (l : Launch) (D : gD) (d : Nat) (q : Int32 → gMem → Prop) (Γ : gC) (r0 : Nat) (μ : gMem) : Prop := G l D RX10 cX10_undo 1 (some .int) d (pI q) Γ 0 [(0, .ref (D.2.2 10 r0))] [] μ
set_option maxRecDepth 20000 in
set_option maxHeartbeats 4000000 in
theorem bl_X10_undo_0 {l : Launch} {D : gD} {d : Nat} {q : Int32 → gMem → Prop} {Γ : gC} {r0 : Nat} {μ : gMem} (hr0 : r0 < 1) (h : ∀ μ_1 : gMem, μ_1 = gsI μ 10 r0 0 (0 : Int32) → ((¬ (μ_1.1 10 r0 50) = 0) → ∀ μ_3 : gMem, μ_3 = gsI μ_1 10 r0 50 ((μ_1.1 10 r0 50) - (1 : Int32)) → ∃ (d_4 : Nat) (q_5 : gMem → Prop), d_4 < d ∧ Ctr l D d_4 yX10_copies cX10_copies 6 none [.ref (D.2.2 10 r0), .int (0 : Int32), .int ((3 : Int32) + (μ_3.1 10 r0 50))] μ_3 (pV q_5) ∧ ∀ (μ_8 : gMem), q_5 μ_8 → q (μ_8.1 10 r0 50) μ_8) ∧ (((μ_1.1 10 r0 50) = 0) → q (-1 : Int32) μ_1)) : pt_X10_undo_0 l D d q Γ r0 μ := by
  unfold pt_X10_undo_0
  refine g_aload_n dX10_undo_0 rfl ?_
  refine g_iconst (0 : Int32) dX10_undo_1 rfl ?_
  refine g_pfI fi_10_145 hr0 rfl rfl dX10_undo_2 ?_
  obtain ⟨μ_1, eμ_1⟩ : ∃ z : gMem, z = gsI μ 10 r0 0 (0 : Int32) := ⟨_, rfl⟩
  have h := h μ_1 eμ_1
  refine g_mem eμ_1.symm ?_
  refine g_aload_n dX10_undo_5 rfl ?_
  refine g_gfI fi_10_305 hr0 dX10_undo_6 ?_
  refine g_if_ne (tgt := 14) dX10_undo_9 (by decide) (fun c_2 => ?_) (fun c_2 => ?_)
  · have h := h.1 c_2
    refine g_aload_n dX10_undo_14 rfl ?_
    refine g_dup dX10_undo_15 rfl ?_
    refine g_gfI fi_10_305 hr0 dX10_undo_16 ?_
    refine g_iconst (1 : Int32) dX10_undo_19 rfl ?_
    refine g_isub dX10_undo_20 ?_
    refine g_pfI fi_10_305 hr0 rfl rfl dX10_undo_21 ?_
    obtain ⟨μ_3, eμ_3⟩ : ∃ z : gMem, z = gsI μ_1 10 r0 50 ((μ_1.1 10 r0 50) - (1 : Int32)) := ⟨_, rfl⟩
    have h := h μ_3 eμ_3
    refine g_mem eμ_3.symm ?_
    refine g_aload_n dX10_undo_24 rfl ?_
    refine g_iconst (0 : Int32) dX10_undo_25 rfl ?_
    refine g_iconst (3 : Int32) dX10_undo_26 rfl ?_
    refine g_aload_n dX10_undo_27 rfl ?_
    refine g_gfI fi_10_305 hr0 dX10_undo_28 ?_
    refine g_iadd dX10_undo_31 ?_
    obtain ⟨d_4, q_5, hd_6, hc_7, h⟩ := h
    refine g_cV ca_X10_387 ob_10 hc_7 hd_6 (by decide) hr0 rfl rfl (by first | exact Nat.le_of_ble_eq_true rfl | decide) dX10_undo_32 (kV (fun μ_8 hq_10 => ?_))
    have h := h μ_8 hq_10
    refine g_aload_n dX10_undo_35 rfl ?_
    refine g_gfI fi_10_305 hr0 dX10_undo_36 ?_
    exact g_iret dX10_undo_39 rfl rfl ⟨_, rfl, h⟩
  · have h := h.2 c_2
    refine g_iconst (-1 : Int32) dX10_undo_12 rfl ?_
    exact g_iret dX10_undo_13 rfl rfl ⟨_, rfl, h⟩
theorem en_X10_undo {l : Launch} {D : gD} {d : Nat} {q : Int32 → gMem → Prop} {r0 : Nat} {μ : gMem} (h : ∀ Γ : gC, pt_X10_undo_0 l D d q Γ r0 μ) : Ctr l D d yX10_undo cX10_undo 1 (some .int) [.ref (D.2.2 10 r0)] μ (pI q) :=
  Ctr_of rfl (by decide) (Nat.le_of_ble_eq_true rfl) (fun Γ => g_sub [0] rfl (h Γ))
def pt_X10_keep_0 (l : Launch) (D : gD) (d : Nat) (q : Int32 → gMem → Prop) (Γ : gC) (r0 : Nat) (μ : gMem) : Prop := G l D RX10 cX10_keep 1 (some .int) d (pI q) Γ 0 [(0, .ref (D.2.2 10 r0))] [] μ
set_option maxRecDepth 20000 in
set_option maxHeartbeats 4000000 in
theorem bl_X10_keep_0 {l : Launch} {D : gD} {d : Nat} {q : Int32 → gMem → Prop} {Γ : gC} {r0 : Nat} {μ : gMem} (hr0 : r0 < 1) (h : ∀ μ_1 : gMem, μ_1 = gsI μ 10 r0 0 (0 : Int32) → ∃ (d_2 : Nat) (q_3 : gMem → Prop), d_2 < d ∧ Ctr l D d_2 yX10_copies cX10_copies 6 none [.ref (D.2.2 10 r0), .int (2 : Int32), .int (0 : Int32)] μ_1 (pV q_3) ∧ ∀ (μ_6 : gMem), q_3 μ_6 → ∀ μ_9 : gMem, μ_9 = gsI μ_6 10 r0 49 (1 : Int32) → q (μ_9.1 737 r0 0) μ_9) : pt_X10_keep_0 l D d q Γ r0 μ := by
  unfold pt_X10_keep_0
  refine g_aload_n dX10_keep_0 rfl ?_
  refine g_iconst (0 : Int32) dX10_keep_1 rfl ?_
  refine g_pfI fi_10_145 hr0 rfl rfl dX10_keep_2 ?_
  obtain ⟨μ_1, eμ_1⟩ : ∃ z : gMem, z = gsI μ 10 r0 0 (0 : Int32) := ⟨_, rfl⟩
  have h := h μ_1 eμ_1
  refine g_mem eμ_1.symm ?_
  refine g_aload_n dX10_keep_5 rfl ?_
  refine g_iconst (2 : Int32) dX10_keep_6 rfl ?_
  refine g_iconst (0 : Int32) dX10_keep_7 rfl ?_
  obtain ⟨d_2, q_3, hd_4, hc_5, h⟩ := h
  refine g_cV ca_X10_387 ob_10 hc_5 hd_4 (by decide) hr0 rfl rfl (by first | exact Nat.le_of_ble_eq_true rfl | decide) dX10_keep_8 (kV (fun μ_6 hq_8 => ?_))
  have h := h μ_6 hq_8
  refine g_aload_n dX10_keep_11 rfl ?_
  refine g_iconst (1 : Int32) dX10_keep_12 rfl ?_
  refine g_pfI fi_10_301 hr0 rfl rfl dX10_keep_13 ?_
  obtain ⟨μ_9, eμ_9⟩ : ∃ z : gMem, z = gsI μ_6 10 r0 49 (1 : Int32) := ⟨_, rfl⟩
  have h := h μ_9 eμ_9
  refine g_mem eμ_9.symm ?_
  refine g_aload_n dX10_keep_16 rfl ?_
  refine g_gfR fl_10_66 rfl hr0 dX10_keep_17 ?_
  refine g_iconst (0 : Int32) dX10_keep_20 rfl ?_
  refine g_iald 0 hr0 rfl (by decide) (by decide) rfl dX10_keep_21 ?_
  exact g_iret dX10_keep_22 rfl rfl ⟨_, rfl, h⟩
theorem en_X10_keep {l : Launch} {D : gD} {d : Nat} {q : Int32 → gMem → Prop} {r0 : Nat} {μ : gMem} (h : ∀ Γ : gC, pt_X10_keep_0 l D d q Γ r0 μ) : Ctr l D d yX10_keep cX10_keep 1 (some .int) [.ref (D.2.2 10 r0)] μ (pI q) :=
  Ctr_of rfl (by decide) (Nat.le_of_ble_eq_true rfl) (fun Γ => g_sub [0] rfl (h Γ))
def pt_X10_back_0 (l : Launch) (D : gD) (d : Nat) (q : Int32 → gMem → Prop) (Γ : gC) (r0 : Nat) (μ : gMem) : Prop := G l D RX10 cX10_back 1 (some .int) d (pI q) Γ 0 [(0, .ref (D.2.2 10 r0))] [] μ
set_option maxRecDepth 20000 in
set_option maxHeartbeats 4000000 in
theorem bl_X10_back_0 {l : Launch} {D : gD} {d : Nat} {q : Int32 → gMem → Prop} {Γ : gC} {r0 : Nat} {μ : gMem} (hr0 : r0 < 1) (h : ∀ μ_1 : gMem, μ_1 = gsI μ 10 r0 0 (0 : Int32) → ((¬ (μ_1.1 10 r0 49) = 0) → ∃ (d_3 : Nat) (q_4 : gMem → Prop), d_3 < d ∧ Ctr l D d_3 yX10_copies cX10_copies 6 none [.ref (D.2.2 10 r0), .int (0 : Int32), .int (2 : Int32)] μ_1 (pV q_4) ∧ ∀ (μ_7 : gMem), q_4 μ_7 → ∀ μ_10 : gMem, μ_10 = gsI μ_7 10 r0 50 (0 : Int32) → q (μ_10.1 737 r0 0) μ_10) ∧ (((μ_1.1 10 r0 49) = 0) → q (-1 : Int32) μ_1)) : pt_X10_back_0 l D d q Γ r0 μ := by
  unfold pt_X10_back_0
  refine g_aload_n dX10_back_0 rfl ?_
  refine g_iconst (0 : Int32) dX10_back_1 rfl ?_
  refine g_pfI fi_10_145 hr0 rfl rfl dX10_back_2 ?_
  obtain ⟨μ_1, eμ_1⟩ : ∃ z : gMem, z = gsI μ 10 r0 0 (0 : Int32) := ⟨_, rfl⟩
  have h := h μ_1 eμ_1
  refine g_mem eμ_1.symm ?_
  refine g_aload_n dX10_back_5 rfl ?_
  refine g_gfI fi_10_301 hr0 dX10_back_6 ?_
  refine g_if_ne (tgt := 14) dX10_back_9 (by decide) (fun c_2 => ?_) (fun c_2 => ?_)
  · have h := h.1 c_2
    refine g_aload_n dX10_back_14 rfl ?_
    refine g_iconst (0 : Int32) dX10_back_15 rfl ?_
    refine g_iconst (2 : Int32) dX10_back_16 rfl ?_
    obtain ⟨d_3, q_4, hd_5, hc_6, h⟩ := h
    refine g_cV ca_X10_387 ob_10 hc_6 hd_5 (by decide) hr0 rfl rfl (by first | exact Nat.le_of_ble_eq_true rfl | decide) dX10_back_17 (kV (fun μ_7 hq_9 => ?_))
    have h := h μ_7 hq_9
    refine g_aload_n dX10_back_20 rfl ?_
    refine g_iconst (0 : Int32) dX10_back_21 rfl ?_
    refine g_pfI fi_10_305 hr0 rfl rfl dX10_back_22 ?_
    obtain ⟨μ_10, eμ_10⟩ : ∃ z : gMem, z = gsI μ_7 10 r0 50 (0 : Int32) := ⟨_, rfl⟩
    have h := h μ_10 eμ_10
    refine g_mem eμ_10.symm ?_
    refine g_aload_n dX10_back_25 rfl ?_
    refine g_gfR fl_10_66 rfl hr0 dX10_back_26 ?_
    refine g_iconst (0 : Int32) dX10_back_29 rfl ?_
    refine g_iald 0 hr0 rfl (by decide) (by decide) rfl dX10_back_30 ?_
    exact g_iret dX10_back_31 rfl rfl ⟨_, rfl, h⟩
  · have h := h.2 c_2
    refine g_iconst (-1 : Int32) dX10_back_12 rfl ?_
    exact g_iret dX10_back_13 rfl rfl ⟨_, rfl, h⟩
theorem en_X10_back {l : Launch} {D : gD} {d : Nat} {q : Int32 → gMem → Prop} {r0 : Nat} {μ : gMem} (h : ∀ Γ : gC, pt_X10_back_0 l D d q Γ r0 μ) : Ctr l D d yX10_back cX10_back 1 (some .int) [.ref (D.2.2 10 r0)] μ (pI q) :=
  Ctr_of rfl (by decide) (Nat.le_of_ble_eq_true rfl) (fun Γ => g_sub [0] rfl (h Γ))
def pt_X10_count_0 (l : Launch) (D : gD) (d : Nat) (q : Int32 → gMem → Prop) (Γ : gC) (r0 : Nat) (x1 : Int32) (μ : gMem) : Prop := G l D RX10 cX10_count 2 (some .int) d (pI q) Γ 0 [(0, .ref (D.2.2 10 r0)), (1, .int x1)] [] μ
set_option maxRecDepth 20000 in
set_option maxHeartbeats 4000000 in
theorem bl_X10_count_0 {l : Launch} {D : gD} {d : Nat} {q : Int32 → gMem → Prop} {Γ : gC} {r0 : Nat} {x1 : Int32} {μ : gMem} (hr0 : r0 < 1) (h : ∀ μ_1 : gMem, μ_1 = gsI μ 10 r0 0 (0 : Int32) → (x1 = (0 : Int32) → q (μ_1.1 707 r0 0) μ_1) ∧ (x1 = (1 : Int32) → q (μ_1.1 707 r0 1) μ_1) ∧ (x1 = (2 : Int32) → q (μ_1.1 707 r0 2) μ_1) ∧ (x1 = (3 : Int32) → q (μ_1.1 707 r0 9) μ_1) ∧ (x1 = (4 : Int32) → q (μ_1.1 737 r0 0) μ_1) ∧ (x1 = (5 : Int32) → q (μ_1.1 738 r0 0) μ_1) ∧ (x1 = (6 : Int32) → ∃ (d_9 : Nat) (q_10 : Int32 → gMem → Prop), d_9 < d ∧ Ctr l D d_9 yX10_sumOf cX10_sumOf 5 (some .int) [.ref (D.2.2 10 r0), .ref (D.2.2 745 r0), .int (0 : Int32)] μ_1 (pI q_10) ∧ ∀ (v_14 : Int32) (μ_13 : gMem), q_10 v_14 μ_13 → q v_14 μ_13) ∧ (x1 = (7 : Int32) → ∃ (d_16 : Nat) (q_17 : Int32 → gMem → Prop), d_16 < d ∧ Ctr l D d_16 yX10_sumOf cX10_sumOf 5 (some .int) [.ref (D.2.2 10 r0), .ref (D.2.2 746 r0), .int (0 : Int32)] μ_1 (pI q_17) ∧ ∀ (v_21 : Int32) (μ_20 : gMem), q_17 v_21 μ_20 → q v_21 μ_20) ∧ (x1 = (8 : Int32) → ∃ (d_23 : Nat) (q_24 : Int32 → gMem → Prop), d_23 < d ∧ Ctr l D d_23 yX10_sumOf cX10_sumOf 5 (some .int) [.ref (D.2.2 10 r0), .ref (D.2.2 749 r0), .int (0 : Int32)] μ_1 (pI q_24) ∧ ∀ (v_28 : Int32) (μ_27 : gMem), q_24 v_28 μ_27 → q v_28 μ_27) ∧ (x1 = (9 : Int32) → ∃ (d_30 : Nat) (q_31 : Int32 → gMem → Prop), d_30 < d ∧ Ctr l D d_30 yX10_sumOf cX10_sumOf 5 (some .int) [.ref (D.2.2 10 r0), .ref (D.2.2 750 r0), .int (0 : Int32)] μ_1 (pI q_31) ∧ ∀ (v_35 : Int32) (μ_34 : gMem), q_31 v_35 μ_34 → q v_35 μ_34) ∧ (x1 = (10 : Int32) → ∃ (d_37 : Nat) (q_38 : Int32 → gMem → Prop), d_37 < d ∧ Ctr l D d_37 yX10_sumOf cX10_sumOf 5 (some .int) [.ref (D.2.2 10 r0), .ref (D.2.2 743 r0), .int (0 : Int32)] μ_1 (pI q_38) ∧ ∀ (v_42 : Int32) (μ_41 : gMem), q_38 v_42 μ_41 → q v_42 μ_41) ∧ (x1 = (11 : Int32) → q (μ_1.1 10 r0 55) μ_1) ∧ (x1 = (12 : Int32) → (0 < d) ∧ (q (fkn (μ_1.1 10 r0 56) (μ_1.1 10 r0 55)) μ_1)) ∧ (x1 = (13 : Int32) → q (μ_1.1 10 r0 50) μ_1) ∧ ((¬ x1 = (0 : Int32) ∧ ¬ x1 = (1 : Int32) ∧ ¬ x1 = (2 : Int32) ∧ ¬ x1 = (3 : Int32) ∧ ¬ x1 = (4 : Int32) ∧ ¬ x1 = (5 : Int32) ∧ ¬ x1 = (6 : Int32) ∧ ¬ x1 = (7 : Int32) ∧ ¬ x1 = (8 : Int32) ∧ ¬ x1 = (9 : Int32) ∧ ¬ x1 = (10 : Int32) ∧ ¬ x1 = (11 : Int32) ∧ ¬ x1 = (12 : Int32) ∧ ¬ x1 = (13 : Int32)) → q (-1 : Int32) μ_1)) : pt_X10_count_0 l D d q Γ r0 x1 μ := by
  unfold pt_X10_count_0
  refine g_aload_n dX10_count_0 rfl ?_
  refine g_iconst (0 : Int32) dX10_count_1 rfl ?_
  refine g_pfI fi_10_145 hr0 rfl rfl dX10_count_2 ?_
  obtain ⟨μ_1, eμ_1⟩ : ∃ z : gMem, z = gsI μ 10 r0 0 (0 : Int32) := ⟨_, rfl⟩
  have h := h μ_1 eμ_1
  refine g_mem eμ_1.symm ?_
  refine g_iload_n dX10_count_5 rfl ?_
  by_cases c_2_0 : x1 = (0 : Int32)
  · refine g_tableIn (off := 70) (tgt := 76) dX10_count_6 (by rw [c_2_0]; decide) (by rw [c_2_0]; decide) (by rw [c_2_0]; rfl) (by decide) ?_
    have h := h.1 c_2_0
    refine g_aload_n dX10_count_76 rfl ?_
    refine g_gfR fl_10_13 rfl hr0 dX10_count_77 ?_
    refine g_iconst (0 : Int32) dX10_count_80 rfl ?_
    refine g_iald 0 hr0 rfl (by decide) (by decide) rfl dX10_count_81 ?_
    exact g_iret dX10_count_82 rfl rfl ⟨_, rfl, h⟩
  by_cases c_2_1 : x1 = (1 : Int32)
  · refine g_tableIn (off := 77) (tgt := 83) dX10_count_6 (by rw [c_2_1]; decide) (by rw [c_2_1]; decide) (by rw [c_2_1]; rfl) (by decide) ?_
    have h := h.2.1 c_2_1
    refine g_aload_n dX10_count_83 rfl ?_
    refine g_gfR fl_10_13 rfl hr0 dX10_count_84 ?_
    refine g_iconst (1 : Int32) dX10_count_87 rfl ?_
    refine g_iald 1 hr0 rfl (by decide) (by decide) rfl dX10_count_88 ?_
    exact g_iret dX10_count_89 rfl rfl ⟨_, rfl, h⟩
  by_cases c_2_2 : x1 = (2 : Int32)
  · refine g_tableIn (off := 84) (tgt := 90) dX10_count_6 (by rw [c_2_2]; decide) (by rw [c_2_2]; decide) (by rw [c_2_2]; rfl) (by decide) ?_
    have h := h.2.2.1 c_2_2
    refine g_aload_n dX10_count_90 rfl ?_
    refine g_gfR fl_10_13 rfl hr0 dX10_count_91 ?_
    refine g_iconst (2 : Int32) dX10_count_94 rfl ?_
    refine g_iald 2 hr0 rfl (by decide) (by decide) rfl dX10_count_95 ?_
    exact g_iret dX10_count_96 rfl rfl ⟨_, rfl, h⟩
  by_cases c_2_3 : x1 = (3 : Int32)
  · refine g_tableIn (off := 91) (tgt := 97) dX10_count_6 (by rw [c_2_3]; decide) (by rw [c_2_3]; decide) (by rw [c_2_3]; rfl) (by decide) ?_
    have h := h.2.2.2.1 c_2_3
    refine g_aload_n dX10_count_97 rfl ?_
    refine g_gfR fl_10_13 rfl hr0 dX10_count_98 ?_
    refine g_bipush (9 : Int32) dX10_count_101 rfl ?_
    refine g_iald 9 hr0 rfl (by decide) (by decide) rfl dX10_count_103 ?_
    exact g_iret dX10_count_104 rfl rfl ⟨_, rfl, h⟩
  by_cases c_2_4 : x1 = (4 : Int32)
  · refine g_tableIn (off := 99) (tgt := 105) dX10_count_6 (by rw [c_2_4]; decide) (by rw [c_2_4]; decide) (by rw [c_2_4]; rfl) (by decide) ?_
    have h := h.2.2.2.2.1 c_2_4
    refine g_aload_n dX10_count_105 rfl ?_
    refine g_gfR fl_10_66 rfl hr0 dX10_count_106 ?_
    refine g_iconst (0 : Int32) dX10_count_109 rfl ?_
    refine g_iald 0 hr0 rfl (by decide) (by decide) rfl dX10_count_110 ?_
    exact g_iret dX10_count_111 rfl rfl ⟨_, rfl, h⟩
  by_cases c_2_5 : x1 = (5 : Int32)
  · refine g_tableIn (off := 106) (tgt := 112) dX10_count_6 (by rw [c_2_5]; decide) (by rw [c_2_5]; decide) (by rw [c_2_5]; rfl) (by decide) ?_
    have h := h.2.2.2.2.2.1 c_2_5
    refine g_aload_n dX10_count_112 rfl ?_
    refine g_gfR fl_10_69 rfl hr0 dX10_count_113 ?_
    refine g_iconst (0 : Int32) dX10_count_116 rfl ?_
    refine g_iald 0 hr0 rfl (by decide) (by decide) rfl dX10_count_117 ?_
    exact g_iret dX10_count_118 rfl rfl ⟨_, rfl, h⟩
  by_cases c_2_6 : x1 = (6 : Int32)
  · refine g_tableIn (off := 113) (tgt := 119) dX10_count_6 (by rw [c_2_6]; decide) (by rw [c_2_6]; decide) (by rw [c_2_6]; rfl) (by decide) ?_
    have h := h.2.2.2.2.2.2.1 c_2_6
    refine g_aload_n dX10_count_119 rfl ?_
    refine g_aload_n dX10_count_120 rfl ?_
    refine g_gfR fl_10_90 rfl hr0 dX10_count_121 ?_
    refine g_iconst (0 : Int32) dX10_count_124 rfl ?_
    obtain ⟨d_9, q_10, hd_11, hc_12, h⟩ := h
    refine g_cV ca_X10_441 ob_10 hc_12 hd_11 (by decide) hr0 rfl rfl (by first | exact Nat.le_of_ble_eq_true rfl | decide) dX10_count_125 (kI (fun v_14 μ_13 hq_15 => ?_))
    have h := h v_14 μ_13 hq_15
    exact g_iret dX10_count_128 rfl rfl ⟨_, rfl, h⟩
  by_cases c_2_7 : x1 = (7 : Int32)
  · refine g_tableIn (off := 123) (tgt := 129) dX10_count_6 (by rw [c_2_7]; decide) (by rw [c_2_7]; decide) (by rw [c_2_7]; rfl) (by decide) ?_
    have h := h.2.2.2.2.2.2.2.1 c_2_7
    refine g_aload_n dX10_count_129 rfl ?_
    refine g_aload_n dX10_count_130 rfl ?_
    refine g_gfR fl_10_93 rfl hr0 dX10_count_131 ?_
    refine g_iconst (0 : Int32) dX10_count_134 rfl ?_
    obtain ⟨d_16, q_17, hd_18, hc_19, h⟩ := h
    refine g_cV ca_X10_441 ob_10 hc_19 hd_18 (by decide) hr0 rfl rfl (by first | exact Nat.le_of_ble_eq_true rfl | decide) dX10_count_135 (kI (fun v_21 μ_20 hq_22 => ?_))
    have h := h v_21 μ_20 hq_22
    exact g_iret dX10_count_138 rfl rfl ⟨_, rfl, h⟩
  by_cases c_2_8 : x1 = (8 : Int32)
  · refine g_tableIn (off := 133) (tgt := 139) dX10_count_6 (by rw [c_2_8]; decide) (by rw [c_2_8]; decide) (by rw [c_2_8]; rfl) (by decide) ?_
    have h := h.2.2.2.2.2.2.2.2.1 c_2_8
    refine g_aload_n dX10_count_139 rfl ?_
    refine g_aload_n dX10_count_140 rfl ?_
    refine g_gfR fl_10_102 rfl hr0 dX10_count_141 ?_
    refine g_iconst (0 : Int32) dX10_count_144 rfl ?_
    obtain ⟨d_23, q_24, hd_25, hc_26, h⟩ := h
    refine g_cV ca_X10_441 ob_10 hc_26 hd_25 (by decide) hr0 rfl rfl (by first | exact Nat.le_of_ble_eq_true rfl | decide) dX10_count_145 (kI (fun v_28 μ_27 hq_29 => ?_))
    have h := h v_28 μ_27 hq_29
    exact g_iret dX10_count_148 rfl rfl ⟨_, rfl, h⟩
  by_cases c_2_9 : x1 = (9 : Int32)
  · refine g_tableIn (off := 143) (tgt := 149) dX10_count_6 (by rw [c_2_9]; decide) (by rw [c_2_9]; decide) (by rw [c_2_9]; rfl) (by decide) ?_
    have h := h.2.2.2.2.2.2.2.2.2.1 c_2_9
    refine g_aload_n dX10_count_149 rfl ?_
    refine g_aload_n dX10_count_150 rfl ?_
    refine g_gfR fl_10_105 rfl hr0 dX10_count_151 ?_
    refine g_iconst (0 : Int32) dX10_count_154 rfl ?_
    obtain ⟨d_30, q_31, hd_32, hc_33, h⟩ := h
    refine g_cV ca_X10_441 ob_10 hc_33 hd_32 (by decide) hr0 rfl rfl (by first | exact Nat.le_of_ble_eq_true rfl | decide) dX10_count_155 (kI (fun v_35 μ_34 hq_36 => ?_))
    have h := h v_35 μ_34 hq_36
    exact g_iret dX10_count_158 rfl rfl ⟨_, rfl, h⟩
  by_cases c_2_10 : x1 = (10 : Int32)
  · refine g_tableIn (off := 153) (tgt := 159) dX10_count_6 (by rw [c_2_10]; decide) (by rw [c_2_10]; decide) (by rw [c_2_10]; rfl) (by decide) ?_
    have h := h.2.2.2.2.2.2.2.2.2.2.1 c_2_10
    refine g_aload_n dX10_count_159 rfl ?_
    refine g_aload_n dX10_count_160 rfl ?_
    refine g_gfR fl_10_84 rfl hr0 dX10_count_161 ?_
    refine g_iconst (0 : Int32) dX10_count_164 rfl ?_
    obtain ⟨d_37, q_38, hd_39, hc_40, h⟩ := h
    refine g_cV ca_X10_441 ob_10 hc_40 hd_39 (by decide) hr0 rfl rfl (by first | exact Nat.le_of_ble_eq_true rfl | decide) dX10_count_165 (kI (fun v_42 μ_41 hq_43 => ?_))
    have h := h v_42 μ_41 hq_43
    exact g_iret dX10_count_168 rfl rfl ⟨_, rfl, h⟩
  by_cases c_2_11 : x1 = (11 : Int32)
  · refine g_tableIn (off := 163) (tgt := 169) dX10_count_6 (by rw [c_2_11]; decide) (by rw [c_2_11]; decide) (by rw [c_2_11]; rfl) (by decide) ?_
    have h := h.2.2.2.2.2.2.2.2.2.2.2.1 c_2_11
    refine g_aload_n dX10_count_169 rfl ?_
    refine g_gfI fi_10_298 hr0 dX10_count_170 ?_
    exact g_iret dX10_count_173 rfl rfl ⟨_, rfl, h⟩
  by_cases c_2_12 : x1 = (12 : Int32)
  · refine g_tableIn (off := 168) (tgt := 174) dX10_count_6 (by rw [c_2_12]; decide) (by rw [c_2_12]; decide) (by rw [c_2_12]; rfl) (by decide) ?_
    have h := h.2.2.2.2.2.2.2.2.2.2.2.2.1 c_2_12
    refine g_aload_n dX10_count_174 rfl ?_
    obtain ⟨hd_44, h⟩ := h
    refine g_cV ca_X10_431 ob_10 (c_X10_knownMany (d := 0) (Nat.le_refl _) hr0 ) hd_44 (by decide) hr0 rfl rfl (by first | exact Nat.le_of_ble_eq_true rfl | decide) dX10_count_175 (kI (fun v_45 μ_46 hq_47 => ?_))
    obtain ⟨ev_45, eμ_46⟩ := hq_47
    subst ev_45
    refine g_mem eμ_46 ?_
    exact g_iret dX10_count_178 rfl rfl ⟨_, rfl, h⟩
  by_cases c_2_13 : x1 = (13 : Int32)
  · refine g_tableIn (off := 173) (tgt := 179) dX10_count_6 (by rw [c_2_13]; decide) (by rw [c_2_13]; decide) (by rw [c_2_13]; rfl) (by decide) ?_
    have h := h.2.2.2.2.2.2.2.2.2.2.2.2.2.1 c_2_13
    refine g_aload_n dX10_count_179 rfl ?_
    refine g_gfI fi_10_305 hr0 dX10_count_180 ?_
    exact g_iret dX10_count_183 rfl rfl ⟨_, rfl, h⟩
  have c_2_o : (x1).toInt < 0 ∨ 13 < (x1).toInt := by
    have := lv_neT c_2_0 (a := 0) rfl
    have := lv_neT c_2_1 (a := 1) rfl
    have := lv_neT c_2_2 (a := 2) rfl
    have := lv_neT c_2_3 (a := 3) rfl
    have := lv_neT c_2_4 (a := 4) rfl
    have := lv_neT c_2_5 (a := 5) rfl
    have := lv_neT c_2_6 (a := 6) rfl
    have := lv_neT c_2_7 (a := 7) rfl
    have := lv_neT c_2_8 (a := 8) rfl
    have := lv_neT c_2_9 (a := 9) rfl
    have := lv_neT c_2_10 (a := 10) rfl
    have := lv_neT c_2_11 (a := 11) rfl
    have := lv_neT c_2_12 (a := 12) rfl
    have := lv_neT c_2_13 (a := 13) rfl
    omega
  refine g_tableOut (tgt := 184) dX10_count_6 c_2_o (by decide) ?_
  have h := h.2.2.2.2.2.2.2.2.2.2.2.2.2.2 ⟨c_2_0, c_2_1, c_2_2, c_2_3, c_2_4, c_2_5, c_2_6, c_2_7, c_2_8, c_2_9, c_2_10, c_2_11, c_2_12, c_2_13⟩
  refine g_iconst (-1 : Int32) dX10_count_184 rfl ?_
  exact g_iret dX10_count_185 rfl rfl ⟨_, rfl, h⟩
theorem en_X10_count {l : Launch} {D : gD} {d : Nat} {q : Int32 → gMem → Prop} {r0 : Nat} {x1 : Int32} {μ : gMem} (h : ∀ Γ : gC, pt_X10_count_0 l D d q Γ r0 x1 μ) : Ctr l D d yX10_count cX10_count 2 (some .int) [.ref (D.2.2 10 r0), .int x1] μ (pI q) :=
  Ctr_of rfl (by decide) (Nat.le_of_ble_eq_true rfl) (fun Γ => g_sub [0, 1] rfl (h Γ))
