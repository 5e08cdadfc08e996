def pt_X10_thrown_0 (l : Launch) (D : gD) (d : Nat) (q : Int32 → gMem → Prop) (Γ : gC) (r0 : Nat) (μ : gMem) : Prop := G l D RX10 cX10_thrown 1 (some .int) d (pI q) Γ 0 [(0, .ref (D.2.2 10 r0))] [] μ
set_option maxRecDepth 20000 in
set_option maxHeartbeats 4000000 in
theorem bl_X10_thrown_0 {l : Launch} {D : gD} {d : Nat} {q : Int32 → gMem → Prop} {Γ : gC} {r0 : Nat} {μ : gMem} (hr0 : r0 < 1) (h : q (μ.1 10 r0 0) μ) : pt_X10_thrown_0 l D d q Γ r0 μ := by
  unfold pt_X10_thrown_0
  refine g_aload_n dX10_thrown_0 rfl ?_
  refine g_gfI fi_10_145 hr0 dX10_thrown_1 ?_
  exact g_iret dX10_thrown_4 rfl rfl ⟨_, rfl, h⟩
theorem en_X10_thrown {l : Launch} {D : gD} {d : Nat} {q : Int32 → gMem → Prop} {r0 : Nat} {μ : gMem} (h : ∀ Γ : gC, pt_X10_thrown_0 l D d q Γ r0 μ) : Ctr l D d yX10_thrown cX10_thrown 1 (some .int) [.ref (D.2.2 10 r0)] μ (pI q) :=
  Ctr_of rfl (by decide) (Nat.le_of_ble_eq_true rfl) (fun Γ => g_sub [0] rfl (h Γ))
def pt_X10_feed_0 (l : Launch) (D : gD) (d : Nat) (q : Int32 → gMem → Prop) (Γ : gC) (r0 : Nat) (x1 : Int32) (x2 : Int32) (x3 : Int32) (x4 : Int32) (x5 : Int32) (μ : gMem) : Prop := G l D RX10 cX10_feed 8 (some .int) d (pI q) Γ 0 [(0, .ref (D.2.2 10 r0)), (1, .int x1), (2, .int x2), (3, .int x3), (4, .int x4), (5, .int x5)] [] μ
def pt_X10_feed_1 (l : Launch) (D : gD) (d : Nat) (q : Int32 → gMem → Prop) (Γ : gC) (r0 : Nat) (x1 : Int32) (x2 : Int32) (x3 : Int32) (x4 : Int32) (x5 : Int32) (x6 : Int32) (μ : gMem) : Prop := G l D RX10 cX10_feed 8 (some .int) d (pI q) Γ 20 [(0, .ref (D.2.2 10 r0)), (1, .int x1), (2, .int x2), (3, .int x3), (4, .int x4), (5, .int x5), (6, .int x6)] [] μ
def pt_X10_feed_2 (l : Launch) (D : gD) (d : Nat) (q : Int32 → gMem → Prop) (Γ : gC) (r0 : Nat) (x1 : Int32) (x2 : Int32) (x3 : Int32) (x4 : Int32) (x5 : Int32) (x6 : Int32) (xs0 : Int32) (μ : gMem) : Prop := G l D RX10 cX10_feed 8 (some .int) d (pI q) Γ 73 [(0, .ref (D.2.2 10 r0)), (1, .int x1), (2, .int x2), (3, .int x3), (4, .int x4), (5, .int x5), (6, .int x6)] [.int xs0] μ
set_option maxRecDepth 20000 in
set_option maxHeartbeats 4000000 in
theorem bl_X10_feed_0 {l : Launch} {D : gD} {d : Nat} {q : Int32 → gMem → Prop} {Γ : gC} {r0 : Nat} {x1 : Int32} {x2 : Int32} {x3 : Int32} {x4 : Int32} {x5 : Int32} {μ : gMem} (hr0 : r0 < 1) (h : ∀ μ_1 : gMem, μ_1 = gsI μ 10 r0 0 (0 : Int32) → (((μ_1.1 10 r0 2) ≤ (680 : Int32)) → ∀ x6_3 : Int32, x6_3 = (0 : Int32) → pt_X10_feed_1 l D d q Γ r0 x1 x2 x3 x4 x5 x6_3 μ_1) ∧ ((¬ (μ_1.1 10 r0 2) ≤ (680 : Int32)) → q (-1 : Int32) μ_1)) : pt_X10_feed_0 l D d q Γ r0 x1 x2 x3 x4 x5 μ := by
  unfold pt_X10_feed_0
  refine g_aload_n dX10_feed_0 rfl ?_
  refine g_iconst (0 : Int32) dX10_feed_1 rfl ?_
  refine g_pfI fi_10_145 hr0 rfl rfl dX10_feed_2 ?_
  obtain ⟨μ_1, eμ_1⟩ : ∃ z : gMem, z = gsI μ 10 r0 0 (0 : Int32) := ⟨_, rfl⟩
  have h := h μ_1 eμ_1
  refine g_mem eμ_1.symm ?_
  refine g_aload_n dX10_feed_5 rfl ?_
  refine g_gfI fi_10_148 hr0 dX10_feed_6 ?_
  refine g_sipush (680 : Int32) dX10_feed_9 rfl ?_
  refine g_icmp_le (tgt := 17) dX10_feed_12 (by decide) (fun c_2 => ?_) (fun c_2 => ?_)
  · have h := h.1 c_2
    refine g_iconst (0 : Int32) dX10_feed_17 rfl ?_
    refine g_istore dX10_feed_18 (by decide) (fun x6_3 ex6_3 => g_sub (lv' := [(0, .ref (D.2.2 10 r0)), (1, .int x1), (2, .int x2), (3, .int x3), (4, .int x4), (5, .int x5), (6, .int x6_3)]) [1, 2, 3, 4, 5, 6, 0] rfl ?_)
    have h := h x6_3 ex6_3
    exact g_sub [0, 1, 2, 3, 4, 5, 6] rfl h
  · have h := h.2 c_2
    refine g_iconst (-1 : Int32) dX10_feed_15 rfl ?_
    exact g_iret dX10_feed_16 rfl rfl ⟨_, rfl, h⟩
set_option maxRecDepth 20000 in
set_option maxHeartbeats 4000000 in
theorem bl_X10_feed_1 {l : Launch} {D : gD} {d : Nat} {q : Int32 → gMem → Prop} {Γ : gC} {r0 : Nat} {x1 : Int32} {x2 : Int32} {x3 : Int32} {x4 : Int32} {x5 : Int32} {x6 : Int32} {μ : gMem} (hr0 : r0 < 1) (h : (((20 : Int32) ≤ x6) → ∀ μ_2 : gMem, μ_2 = gsI μ 10 r0 2 ((μ.1 10 r0 2) + (20 : Int32)) → q (μ_2.1 10 r0 2) μ_2) ∧ ((¬ (20 : Int32) ≤ x6) → (((4 : Int32) ≤ x6) → (((8 : Int32) ≤ x6) → (((12 : Int32) ≤ x6) → (((16 : Int32) ≤ x6) → pt_X10_feed_2 l D d q Γ r0 x1 x2 x3 x4 x5 x6 x5 μ) ∧ ((¬ (16 : Int32) ≤ x6) → pt_X10_feed_2 l D d q Γ r0 x1 x2 x3 x4 x5 x6 x4 μ)) ∧ ((¬ (12 : Int32) ≤ x6) → pt_X10_feed_2 l D d q Γ r0 x1 x2 x3 x4 x5 x6 x3 μ)) ∧ ((¬ (8 : Int32) ≤ x6) → pt_X10_feed_2 l D d q Γ r0 x1 x2 x3 x4 x5 x6 x2 μ)) ∧ ((¬ (4 : Int32) ≤ x6) → pt_X10_feed_2 l D d q Γ r0 x1 x2 x3 x4 x5 x6 x1 μ))) : pt_X10_feed_1 l D d q Γ r0 x1 x2 x3 x4 x5 x6 μ := by
  unfold pt_X10_feed_1
  refine g_iload dX10_feed_20 rfl ?_
  refine g_bipush (20 : Int32) dX10_feed_22 rfl ?_
  refine g_icmp_ge (tgt := 110) dX10_feed_24 (by decide) (fun c_1 => ?_) (fun c_1 => ?_)
  · have h := h.1 c_1
    refine g_aload_n dX10_feed_110 rfl ?_
    refine g_dup dX10_feed_111 rfl ?_
    refine g_gfI fi_10_148 hr0 dX10_feed_112 ?_
    refine g_bipush (20 : Int32) dX10_feed_115 rfl ?_
    refine g_iadd dX10_feed_117 ?_
    refine g_pfI fi_10_148 hr0 rfl rfl dX10_feed_118 ?_
    obtain ⟨μ_2, eμ_2⟩ : ∃ z : gMem, z = gsI μ 10 r0 2 ((μ.1 10 r0 2) + (20 : Int32)) := ⟨_, rfl⟩
    have h := h μ_2 eμ_2
    refine g_mem eμ_2.symm ?_
    refine g_aload_n dX10_feed_121 rfl ?_
    refine g_gfI fi_10_148 hr0 dX10_feed_122 ?_
    exact g_iret dX10_feed_125 rfl rfl ⟨_, rfl, h⟩
  · have h := h.2 c_1
    refine g_iload dX10_feed_27 rfl ?_
    refine g_iconst (4 : Int32) dX10_feed_29 rfl ?_
    refine g_icmp_ge (tgt := 37) dX10_feed_30 (by decide) (fun c_3 => ?_) (fun c_3 => ?_)
    · have h := h.1 c_3
      refine g_iload dX10_feed_37 rfl ?_
      refine g_bipush (8 : Int32) dX10_feed_39 rfl ?_
      refine g_icmp_ge (tgt := 48) dX10_feed_41 (by decide) (fun c_4 => ?_) (fun c_4 => ?_)
      · have h := h.1 c_4
        refine g_iload dX10_feed_48 rfl ?_
        refine g_bipush (12 : Int32) dX10_feed_50 rfl ?_
        refine g_icmp_ge (tgt := 59) dX10_feed_52 (by decide) (fun c_5 => ?_) (fun c_5 => ?_)
        · have h := h.1 c_5
          refine g_iload dX10_feed_59 rfl ?_
          refine g_bipush (16 : Int32) dX10_feed_61 rfl ?_
          refine g_icmp_ge (tgt := 71) dX10_feed_63 (by decide) (fun c_6 => ?_) (fun c_6 => ?_)
          · have h := h.1 c_6
            refine g_iload dX10_feed_71 rfl ?_
            exact g_sub [0, 1, 2, 3, 4, 5, 6] rfl h
          · have h := h.2 c_6
            refine g_iload dX10_feed_66 rfl ?_
            refine g_goto (tgt := 73) dX10_feed_68 (by decide) ?_
            exact g_sub [0, 1, 2, 3, 4, 5, 6] rfl h
        · have h := h.2 c_5
          refine g_iload_n dX10_feed_55 rfl ?_
          refine g_goto (tgt := 73) dX10_feed_56 (by decide) ?_
          exact g_sub [0, 1, 2, 3, 4, 5, 6] rfl h
      · have h := h.2 c_4
        refine g_iload_n dX10_feed_44 rfl ?_
        refine g_goto (tgt := 73) dX10_feed_45 (by decide) ?_
        exact g_sub [0, 1, 2, 3, 4, 5, 6] rfl h
    · have h := h.2 c_3
      refine g_iload_n dX10_feed_33 rfl ?_
      refine g_goto (tgt := 73) dX10_feed_34 (by decide) ?_
      exact g_sub [0, 1, 2, 3, 4, 5, 6] rfl h
set_option maxRecDepth 20000 in
set_option maxHeartbeats 4000000 in
theorem bl_X10_feed_2 {l : Launch} {D : gD} {d : Nat} {q : Int32 → gMem → Prop} {Γ : gC} {r0 : Nat} {x1 : Int32} {x2 : Int32} {x3 : Int32} {x4 : Int32} {x5 : Int32} {x6 : Int32} {xs0 : Int32} {μ : gMem} (hr0 : r0 < 1) (h : ∀ x7_1 : Int32, x7_1 = xs0 → ∃ j_2 : Nat, j_2 < 700 ∧ (μ.1 10 r0 2) + x6 = nI j_2 ∧ (∀ μ_3 : gMem, μ_3 = gsI μ 705 r0 j_2 ((x7_1 >>> (((24 : Int32) - ((8 : Int32) * (x6 - x6 / (4 : Int32) * (4 : Int32)))) &&& 31)) &&& (255 : Int32)) → ∀ x6_4 : Int32, x6_4 = x6 + (1 : Int32) → pt_X10_feed_1 l D d q Γ r0 x1 x2 x3 x4 x5 x6_4 μ_3)) : pt_X10_feed_2 l D d q Γ r0 x1 x2 x3 x4 x5 x6 xs0 μ := by
  unfold pt_X10_feed_2
  refine g_istore dX10_feed_73 (by decide) (fun x7_1 ex7_1 => g_sub (lv' := [(0, .ref (D.2.2 10 r0)), (1, .int x1), (2, .int x2), (3, .int x3), (4, .int x4), (5, .int x5), (6, .int x6), (7, .int x7_1)]) [1, 2, 3, 4, 5, 6, 7, 0] rfl ?_)
  have h := h x7_1 ex7_1
  refine g_aload_n dX10_feed_75 rfl ?_
  refine g_gfR fl_10_7 rfl hr0 dX10_feed_76 ?_
  refine g_aload_n dX10_feed_79 rfl ?_
  refine g_gfI fi_10_148 hr0 dX10_feed_80 ?_
  refine g_iload dX10_feed_83 rfl ?_
  refine g_iadd dX10_feed_85 ?_
  refine g_iload dX10_feed_86 rfl ?_
  refine g_bipush (24 : Int32) dX10_feed_88 rfl ?_
  refine g_bipush (8 : Int32) dX10_feed_90 rfl ?_
  refine g_iload dX10_feed_92 rfl ?_
  refine g_iconst (4 : Int32) dX10_feed_94 rfl ?_
  refine g_irem dX10_feed_95 (by decide) ?_
  refine g_imul dX10_feed_96 ?_
  refine g_isub dX10_feed_97 ?_
  refine g_ishr dX10_feed_98 ?_
  refine g_sipush (255 : Int32) dX10_feed_99 rfl ?_
  refine g_iand dX10_feed_102 ?_
  obtain ⟨j_2, hj_2, ej_2, h⟩ := h
  refine g_iast j_2 hr0 rfl hj_2 (by decide) ej_2 dX10_feed_103 ?_
  obtain ⟨μ_3, eμ_3⟩ : ∃ z : gMem, z = gsI μ 705 r0 j_2 ((x7_1 >>> (((24 : Int32) - ((8 : Int32) * (x6 - x6 / (4 : Int32) * (4 : Int32)))) &&& 31)) &&& (255 : Int32)) := ⟨_, rfl⟩
  have h := h μ_3 eμ_3
  refine g_mem eμ_3.symm ?_
  refine g_iinc dX10_feed_104 rfl (by decide) (fun x6_4 ex6_4 => g_sub (lv' := [(0, .ref (D.2.2 10 r0)), (1, .int x1), (2, .int x2), (3, .int x3), (4, .int x4), (5, .int x5), (6, .int x6_4)]) [1, 2, 3, 4, 5, 6, 0] rfl ?_)
  have h := h x6_4 ex6_4
  refine g_goto (tgt := 20) dX10_feed_107 (by decide) ?_
  exact g_sub [0, 1, 2, 3, 4, 5, 6] rfl h
theorem en_X10_feed {l : Launch} {D : gD} {d : Nat} {q : Int32 → gMem → Prop} {r0 : Nat} {x1 : Int32} {x2 : Int32} {x3 : Int32} {x4 : Int32} {x5 : Int32} {μ : gMem} (h : ∀ Γ : gC, pt_X10_feed_0 l D d q Γ r0 x1 x2 x3 x4 x5 μ) : Ctr l D d yX10_feed cX10_feed 8 (some .int) [.ref (D.2.2 10 r0), .int x1, .int x2, .int x3, .int x4, .int x5] μ (pI q) :=
  Ctr_of rfl (by decide) (Nat.le_of_ble_eq_true rfl) (fun Γ => g_sub [0, 1, 2, 3, 4, 5] rfl (h Γ))
def pt_X10_here_0 (l : Launch) (D : gD) (d : Nat) (q : Int32 → gMem → Prop) (Γ : gC) (r0 : Nat) (μ : gMem) : Prop := G l D RX10 cX10_here 1 (some .int) d (pI q) Γ 0 [(0, .ref (D.2.2 10 r0))] [] μ
set_option maxRecDepth 20000 in
set_option maxHeartbeats 4000000 in
theorem bl_X10_here_0 {l : Launch} {D : gD} {d : Nat} {q : Int32 → gMem → Prop} {Γ : gC} {r0 : Nat} {μ : gMem} (hr0 : r0 < 1) (h : (((μ.1 10 r0 19) ≤ (μ.1 10 r0 20)) → q (-1 : Int32) μ) ∧ ((¬ (μ.1 10 r0 19) ≤ (μ.1 10 r0 20)) → ∃ j_2 : Nat, j_2 < 700 ∧ μ.1 10 r0 20 = nI j_2 ∧ (q (μ.1 705 r0 j_2) μ))) : pt_X10_here_0 l D d q Γ r0 μ := by
  unfold pt_X10_here_0
  refine g_aload_n dX10_here_0 rfl ?_
  refine g_gfI fi_10_151 hr0 dX10_here_1 ?_
  refine g_aload_n dX10_here_4 rfl ?_
  refine g_gfI fi_10_154 hr0 dX10_here_5 ?_
  refine g_icmp_ge (tgt := 23) dX10_here_8 (by decide) (fun c_1 => ?_) (fun c_1 => ?_)
  · have h := h.1 c_1
    refine g_iconst (-1 : Int32) dX10_here_23 rfl ?_
    exact g_iret dX10_here_24 rfl rfl ⟨_, rfl, h⟩
  · have h := h.2 c_1
    refine g_aload_n dX10_here_11 rfl ?_
    refine g_gfR fl_10_7 rfl hr0 dX10_here_12 ?_
    refine g_aload_n dX10_here_15 rfl ?_
    refine g_gfI fi_10_151 hr0 dX10_here_16 ?_
    obtain ⟨j_2, hj_2, ej_2, h⟩ := h
    refine g_iald j_2 hr0 rfl hj_2 (by decide) ej_2 dX10_here_19 ?_
    refine g_goto (tgt := 24) dX10_here_20 (by decide) ?_
    exact g_iret dX10_here_24 rfl rfl ⟨_, rfl, h⟩
theorem en_X10_here {l : Launch} {D : gD} {d : Nat} {q : Int32 → gMem → Prop} {r0 : Nat} {μ : gMem} (h : ∀ Γ : gC, pt_X10_here_0 l D d q Γ r0 μ) : Ctr l D d yX10_here cX10_here 1 (some .int) [.ref (D.2.2 10 r0)] μ (pI q) :=
  Ctr_of rfl (by decide) (Nat.le_of_ble_eq_true rfl) (fun Γ => g_sub [0] rfl (h Γ))
def pt_X10_isSmall_0 (l : Launch) (D : gD) (d : Nat) (q : Int32 → gMem → Prop) (Γ : gC) (x0 : Int32) (μ : gMem) : Prop := G l D RX10 cX10_isSmall 1 (some .boolean) d (pI q) Γ 0 [(0, .int x0)] [] μ
set_option maxRecDepth 20000 in
set_option maxHeartbeats 4000000 in
theorem bl_X10_isSmall_0 {l : Launch} {D : gD} {d : Nat} {q : Int32 → gMem → Prop} {Γ : gC} {x0 : Int32} {μ : gMem}  (h : ((x0 < (97 : Int32)) → q (0 : Int32) μ) ∧ ((¬ x0 < (97 : Int32)) → (((122 : Int32) < x0) → q (0 : Int32) μ) ∧ ((¬ (122 : Int32) < x0) → q (1 : Int32) μ))) : pt_X10_isSmall_0 l D d q Γ x0 μ := by
  unfold pt_X10_isSmall_0
  refine g_iload_n dX10_isSmall_0 rfl ?_
  refine g_bipush (97 : Int32) dX10_isSmall_1 rfl ?_
  refine g_icmp_lt (tgt := 16) dX10_isSmall_3 (by decide) (fun c_1 => ?_) (fun c_1 => ?_)
  · have h := h.1 c_1
    refine g_iconst (0 : Int32) dX10_isSmall_16 rfl ?_
    exact g_iret dX10_isSmall_17 rfl rfl ⟨_, rfl, h⟩
  · have h := h.2 c_1
    refine g_iload_n dX10_isSmall_6 rfl ?_
    refine g_bipush (122 : Int32) dX10_isSmall_7 rfl ?_
    refine g_icmp_gt (tgt := 16) dX10_isSmall_9 (by decide) (fun c_2 => ?_) (fun c_2 => ?_)
    · have h := h.1 c_2
      refine g_iconst (0 : Int32) dX10_isSmall_16 rfl ?_
      exact g_iret dX10_isSmall_17 rfl rfl ⟨_, rfl, h⟩
    · have h := h.2 c_2
      refine g_iconst (1 : Int32) dX10_isSmall_12 rfl ?_
      refine g_goto (tgt := 17) dX10_isSmall_13 (by decide) ?_
      exact g_iret dX10_isSmall_17 rfl rfl ⟨_, rfl, h⟩
theorem en_X10_isSmall {l : Launch} {D : gD} {d : Nat} {q : Int32 → gMem → Prop} {x0 : Int32} {μ : gMem} (h : ∀ Γ : gC, pt_X10_isSmall_0 l D d q Γ x0 μ) : Ctr l D d yX10_isSmall cX10_isSmall 1 (some .boolean) [.int x0] μ (pI q) :=
  Ctr_of rfl (by decide) (Nat.le_of_ble_eq_true rfl) (fun Γ => g_sub [0] rfl (h Γ))
def pt_X10_isDigit_0 (l : Launch) (D : gD) (d : Nat) (q : Int32 → gMem → Prop) (Γ : gC) (x0 : Int32) (μ : gMem) : Prop := G l D RX10 cX10_isDigit 1 (some .boolean) d (pI q) Γ 0 [(0, .int x0)] [] μ
set_option maxRecDepth 20000 in
set_option maxHeartbeats 4000000 in
theorem bl_X10_isDigit_0 {l : Launch} {D : gD} {d : Nat} {q : Int32 → gMem → Prop} {Γ : gC} {x0 : Int32} {μ : gMem}  (h : ((x0 < (48 : Int32)) → q (0 : Int32) μ) ∧ ((¬ x0 < (48 : Int32)) → (((57 : Int32) < x0) → q (0 : Int32) μ) ∧ ((¬ (57 : Int32) < x0) → q (1 : Int32) μ))) : pt_X10_isDigit_0 l D d q Γ x0 μ := by
  unfold pt_X10_isDigit_0
  refine g_iload_n dX10_isDigit_0 rfl ?_
  refine g_bipush (48 : Int32) dX10_isDigit_1 rfl ?_
  refine g_icmp_lt (tgt := 16) dX10_isDigit_3 (by decide) (fun c_1 => ?_) (fun c_1 => ?_)
  · have h := h.1 c_1
    refine g_iconst (0 : Int32) dX10_isDigit_16 rfl ?_
    exact g_iret dX10_isDigit_17 rfl rfl ⟨_, rfl, h⟩
  · have h := h.2 c_1
    refine g_iload_n dX10_isDigit_6 rfl ?_
    refine g_bipush (57 : Int32) dX10_isDigit_7 rfl ?_
    refine g_icmp_gt (tgt := 16) dX10_isDigit_9 (by decide) (fun c_2 => ?_) (fun c_2 => ?_)
    · have h := h.1 c_2
      refine g_iconst (0 : Int32) dX10_isDigit_16 rfl ?_
      exact g_iret dX10_isDigit_17 rfl rfl ⟨_, rfl, h⟩
    · have h := h.2 c_2
      refine g_iconst (1 : Int32) dX10_isDigit_12 rfl ?_
      refine g_goto (tgt := 17) dX10_isDigit_13 (by decide) ?_
      exact g_iret dX10_isDigit_17 rfl rfl ⟨_, rfl, h⟩
theorem en_X10_isDigit {l : Launch} {D : gD} {d : Nat} {q : Int32 → gMem → Prop} {x0 : Int32} {μ : gMem} (h : ∀ Γ : gC, pt_X10_isDigit_0 l D d q Γ x0 μ) : Ctr l D d yX10_isDigit cX10_isDigit 1 (some .boolean) [.int x0] μ (pI q) :=
  Ctr_of rfl (by decide) (Nat.le_of_ble_eq_true rfl) (fun Γ => g_sub [0] rfl (h Γ))
def pt_X10_token_0 (l : Launch) (D : gD) (d : Nat) (q : gMem → Prop) (Γ : gC) (r0 : Nat) (μ : gMem) : Prop := G l D RX10 cX10_token 2 none d (pV q) Γ 0 [(0, .ref (D.2.2 10 r0))] [] μ
def pt_X10_token_1 (l : Launch) (D : gD) (d : Nat) (q : gMem → Prop) (Γ : gC) (r0 : Nat) (μ : gMem) : Prop := G l D RX10 cX10_token 2 none d (pV q) Γ 18 [(0, .ref (D.2.2 10 r0))] [] μ
def pt_X10_token_2 (l : Launch) (D : gD) (d : Nat) (q : gMem → Prop) (Γ : gC) (r0 : Nat) (μ : gMem) : Prop := G l D RX10 cX10_token 2 none d (pV q) Γ 64 [(0, .ref (D.2.2 10 r0))] [] μ
def pt_X10_token_3 (l : Launch) (D : gD) (d : Nat) (q : gMem → Prop) (Γ : gC) (r0 : Nat) (rs0 : Nat) (xs1 : Int32) (μ : gMem) : Prop := G l D RX10 cX10_token 2 none d (pV q) Γ 127 [(0, .ref (D.2.2 10 r0))] [.int xs1, .ref (D.2.2 10 rs0)] μ
def pt_X10_token_4 (l : Launch) (D : gD) (d : Nat) (q : gMem → Prop) (Γ : gC) (r0 : Nat) (μ : gMem) : Prop := G l D RX10 cX10_token 2 none d (pV q) Γ 162 [(0, .ref (D.2.2 10 r0))] [] μ
def pt_X10_token_5 (l : Launch) (D : gD) (d : Nat) (q : gMem → Prop) (Γ : gC) (r0 : Nat) (rs0 : Nat) (xs1 : Int32) (μ : gMem) : Prop := G l D RX10 cX10_token 2 none d (pV q) Γ 204 [(0, .ref (D.2.2 10 r0))] [.int xs1, .ref (D.2.2 10 rs0)] μ
set_option maxRecDepth 20000 in
set_option maxHeartbeats 4000000 in
theorem bl_X10_token_0 {l : Launch} {D : gD} {d : Nat} {q : gMem → Prop} {Γ : gC} {r0 : Nat} {μ : gMem} (hr0 : r0 < 1) (h : ∃ (d_1 : Nat) (q_2 : Int32 → gMem → Prop), d_1 < d ∧ Ctr l D d_1 yX10_here cX10_here 1 (some .int) [.ref (D.2.2 10 r0)] μ (pI q_2) ∧ ∀ (v_6 : Int32) (μ_5 : gMem), q_2 v_6 μ_5 → ((v_6 = (10 : Int32)) → pt_X10_token_1 l D d q Γ r0 μ_5) ∧ ((¬ v_6 = (10 : Int32)) → ∃ (d_9 : Nat) (q_10 : Int32 → gMem → Prop), d_9 < d ∧ Ctr l D d_9 yX10_here cX10_here 1 (some .int) [.ref (D.2.2 10 r0)] μ_5 (pI q_10) ∧ ∀ (v_14 : Int32) (μ_13 : gMem), q_10 v_14 μ_13 → ((¬ v_14 = (32 : Int32)) → ∀ μ_17 : gMem, μ_17 = gsI μ_13 10 r0 21 (μ_13.1 10 r0 20) → ∃ (d_18 : Nat) (q_19 : Int32 → gMem → Prop), d_18 < d ∧ Ctr l D d_18 yX10_here cX10_here 1 (some .int) [.ref (D.2.2 10 r0)] μ_17 (pI q_19) ∧ ∀ (v_23 : Int32) (μ_22 : gMem), q_19 v_23 μ_22 → ∀ x1_25 : Int32, x1_25 = v_23 → ((¬ x1_25 = (-1 : Int32)) → ∃ (d_27 : Nat) (q_28 : Int32 → gMem → Prop), d_27 < d ∧ Ctr l D d_27 yX10_isSmall cX10_isSmall 1 (some .boolean) [.int x1_25] μ_22 (pI q_28) ∧ ∀ (v_32 : Int32) (μ_31 : gMem), q_28 v_32 μ_31 → ((v_32 = 0) → ∃ (d_35 : Nat) (q_36 : Int32 → gMem → Prop), d_35 < d ∧ Ctr l D d_35 yX10_isDigit cX10_isDigit 1 (some .boolean) [.int x1_25] μ_31 (pI q_36) ∧ ∀ (v_40 : Int32) (μ_39 : gMem), q_36 v_40 μ_39 → ((v_40 = 0) → ∃ (d_43 : Nat) (q_44 : gMem → Prop), d_43 < d ∧ Ctr l D d_43 yX10_sign cX10_sign 2 none [.ref (D.2.2 10 r0), .int x1_25] μ_39 (pV q_44) ∧ ∀ (μ_47 : gMem), q_44 μ_47 → q μ_47) ∧ ((¬ v_40 = 0) → ∀ μ_50 : gMem, μ_50 = gsI μ_39 10 r0 22 (2 : Int32) → ∀ μ_51 : gMem, μ_51 = gsI μ_50 10 r0 23 (0 : Int32) → pt_X10_token_4 l D d q Γ r0 μ_51)) ∧ ((¬ v_32 = 0) → pt_X10_token_2 l D d q Γ r0 μ_31)) ∧ ((x1_25 = (-1 : Int32)) → ∀ μ_52 : gMem, μ_52 = gsI μ_22 10 r0 22 (4 : Int32) → q μ_52)) ∧ ((v_14 = (32 : Int32)) → pt_X10_token_1 l D d q Γ r0 μ_13))) : pt_X10_token_0 l D d q Γ r0 μ := by
  unfold pt_X10_token_0
  refine g_aload_n dX10_token_0 rfl ?_
  obtain ⟨d_1, q_2, hd_3, hc_4, h⟩ := h
  refine g_cV ca_X10_157 ob_10 hc_4 hd_3 (by decide) hr0 rfl rfl (by first | exact Nat.le_of_ble_eq_true rfl | decide) dX10_token_1 (kI (fun v_6 μ_5 hq_7 => ?_))
  have h := h v_6 μ_5 hq_7
  refine g_bipush (10 : Int32) dX10_token_4 rfl ?_
  refine g_icmp_eq (tgt := 18) dX10_token_6 (by decide) (fun c_8 => ?_) (fun c_8 => ?_)
  · have h := h.1 c_8
    exact g_sub [0] rfl h
  · have h := h.2 c_8
    refine g_aload_n dX10_token_9 rfl ?_
    obtain ⟨d_9, q_10, hd_11, hc_12, h⟩ := h
    refine g_cV ca_X10_157 ob_10 hc_12 hd_11 (by decide) hr0 rfl rfl (by first | exact Nat.le_of_ble_eq_true rfl | decide) dX10_token_10 (kI (fun v_14 μ_13 hq_15 => ?_))
    have h := h v_14 μ_13 hq_15
    refine g_bipush (32 : Int32) dX10_token_13 rfl ?_
    refine g_icmp_ne (tgt := 31) dX10_token_15 (by decide) (fun c_16 => ?_) (fun c_16 => ?_)
    · have h := h.1 c_16
      refine g_aload_n dX10_token_31 rfl ?_
      refine g_aload_n dX10_token_32 rfl ?_
      refine g_gfI fi_10_151 hr0 dX10_token_33 ?_
      refine g_pfI fi_10_161 hr0 rfl rfl dX10_token_36 ?_
      obtain ⟨μ_17, eμ_17⟩ : ∃ z : gMem, z = gsI μ_13 10 r0 21 (μ_13.1 10 r0 20) := ⟨_, rfl⟩
      have h := h μ_17 eμ_17
      refine g_mem eμ_17.symm ?_
      refine g_aload_n dX10_token_39 rfl ?_
      obtain ⟨d_18, q_19, hd_20, hc_21, h⟩ := h
      refine g_cV ca_X10_157 ob_10 hc_21 hd_20 (by decide) hr0 rfl rfl (by first | exact Nat.le_of_ble_eq_true rfl | decide) dX10_token_40 (kI (fun v_23 μ_22 hq_24 => ?_))
      have h := h v_23 μ_22 hq_24
      refine g_istore_n dX10_token_43 (by decide) (fun x1_25 ex1_25 => g_sub (lv' := [(0, .ref (D.2.2 10 r0)), (1, .int x1_25)]) [1, 0] rfl ?_)
      have h := h x1_25 ex1_25
      refine g_iload_n dX10_token_44 rfl ?_
      refine g_iconst (-1 : Int32) dX10_token_45 rfl ?_
      refine g_icmp_ne (tgt := 57) dX10_token_46 (by decide) (fun c_26 => ?_) (fun c_26 => ?_)
      · have h := h.1 c_26
        refine g_iload_n dX10_token_57 rfl ?_
        obtain ⟨d_27, q_28, hd_29, hc_30, h⟩ := h
        refine g_callS ca_X10_167 hc_30 hd_29 (by decide) rfl rfl (by first | exact Nat.le_of_ble_eq_true rfl | decide) dX10_token_58 (kI (fun v_32 μ_31 hq_33 => ?_))
        have h := h v_32 μ_31 hq_33
        refine g_if_eq (tgt := 145) dX10_token_61 (by decide) (fun c_34 => ?_) (fun c_34 => ?_)
        · have h := h.1 c_34
          refine g_iload_n dX10_token_145 rfl ?_
          obtain ⟨d_35, q_36, hd_37, hc_38, h⟩ := h
          refine g_callS ca_X10_180 hc_38 hd_37 (by decide) rfl rfl (by first | exact Nat.le_of_ble_eq_true rfl | decide) dX10_token_146 (kI (fun v_40 μ_39 hq_41 => ?_))
          have h := h v_40 μ_39 hq_41
          refine g_if_eq (tgt := 220) dX10_token_149 (by decide) (fun c_42 => ?_) (fun c_42 => ?_)
          · have h := h.1 c_42
            refine g_aload_n dX10_token_220 rfl ?_
            refine g_iload_n dX10_token_221 rfl ?_
            obtain ⟨d_43, q_44, hd_45, hc_46, h⟩ := h
            refine g_cV ca_X10_184 ob_10 hc_46 hd_45 (by decide) hr0 rfl rfl (by first | exact Nat.le_of_ble_eq_true rfl | decide) dX10_token_222 (kV (fun μ_47 hq_49 => ?_))
            have h := h μ_47 hq_49
            exact g_vret dX10_token_225 rfl ⟨rfl, h⟩
          · have h := h.2 c_42
            refine g_aload_n dX10_token_152 rfl ?_
            refine g_iconst (2 : Int32) dX10_token_153 rfl ?_
            refine g_pfI fi_10_164 hr0 rfl rfl dX10_token_154 ?_
            obtain ⟨μ_50, eμ_50⟩ : ∃ z : gMem, z = gsI μ_39 10 r0 22 (2 : Int32) := ⟨_, rfl⟩
            have h := h μ_50 eμ_50
            refine g_mem eμ_50.symm ?_
            refine g_aload_n dX10_token_157 rfl ?_
            refine g_iconst (0 : Int32) dX10_token_158 rfl ?_
            refine g_pfI fi_10_174 hr0 rfl rfl dX10_token_159 ?_
            obtain ⟨μ_51, eμ_51⟩ : ∃ z : gMem, z = gsI μ_50 10 r0 23 (0 : Int32) := ⟨_, rfl⟩
            have h := h μ_51 eμ_51
            refine g_mem eμ_51.symm ?_
            exact g_sub [0] rfl h
        · have h := h.2 c_34
          exact g_sub [0] rfl h
      · have h := h.2 c_26
        refine g_aload_n dX10_token_49 rfl ?_
        refine g_iconst (4 : Int32) dX10_token_50 rfl ?_
        refine g_pfI fi_10_164 hr0 rfl rfl dX10_token_51 ?_
        obtain ⟨μ_52, eμ_52⟩ : ∃ z : gMem, z = gsI μ_22 10 r0 22 (4 : Int32) := ⟨_, rfl⟩
        have h := h μ_52 eμ_52
        refine g_mem eμ_52.symm ?_
        refine g_goto (tgt := 225) dX10_token_54 (by decide) ?_
        exact g_vret dX10_token_225 rfl ⟨rfl, h⟩
    · have h := h.2 c_16
      exact g_sub [0] rfl h
set_option maxRecDepth 20000 in
set_option maxHeartbeats 4000000 in
theorem bl_X10_token_1 {l : Launch} {D : gD} {d : Nat} {q : gMem → Prop} {Γ : gC} {r0 : Nat} {μ : gMem} (hr0 : r0 < 1) (h : ∀ μ_1 : gMem, μ_1 = gsI μ 10 r0 20 ((μ.1 10 r0 20) + (1 : Int32)) → pt_X10_token_0 l D d q Γ r0 μ_1) : pt_X10_token_1 l D d q Γ r0 μ := by
  unfold pt_X10_token_1
  refine g_aload_n dX10_token_18 rfl ?_
  refine g_dup dX10_token_19 rfl ?_
  refine g_gfI fi_10_151 hr0 dX10_token_20 ?_
  refine g_iconst (1 : Int32) dX10_token_23 rfl ?_
  refine g_iadd dX10_token_24 ?_
  refine g_pfI fi_10_151 hr0 rfl rfl dX10_token_25 ?_
  obtain ⟨μ_1, eμ_1⟩ : ∃ z : gMem, z = gsI μ 10 r0 20 ((μ.1 10 r0 20) + (1 : Int32)) := ⟨_, rfl⟩
  have h := h μ_1 eμ_1
  refine g_mem eμ_1.symm ?_
  refine g_goto (tgt := 0) dX10_token_28 (by decide) ?_
  exact g_sub [0] rfl h
set_option maxRecDepth 20000 in
set_option maxHeartbeats 4000000 in
theorem bl_X10_token_2 {l : Launch} {D : gD} {d : Nat} {q : gMem → Prop} {Γ : gC} {r0 : Nat} {μ : gMem} (hr0 : r0 < 1) (h : ∃ (d_1 : Nat) (q_2 : Int32 → gMem → Prop), d_1 < d ∧ Ctr l D d_1 yX10_here cX10_here 1 (some .int) [.ref (D.2.2 10 r0)] μ (pI q_2) ∧ ∀ (v_6 : Int32) (μ_5 : gMem), q_2 v_6 μ_5 → ∃ (d_8 : Nat) (q_9 : Int32 → gMem → Prop), d_8 < d ∧ Ctr l D d_8 yX10_isSmall cX10_isSmall 1 (some .boolean) [.int v_6] μ_5 (pI q_9) ∧ ∀ (v_13 : Int32) (μ_12 : gMem), q_9 v_13 μ_12 → ((v_13 = 0) → ∃ (d_16 : Nat) (q_17 : Int32 → gMem → Prop), d_16 < d ∧ Ctr l D d_16 yX10_word cX10_word 4 (some .int) [.ref (D.2.2 10 r0)] μ_12 (pI q_17) ∧ ∀ (v_21 : Int32) (μ_20 : gMem), q_17 v_21 μ_20 → ∀ μ_23 : gMem, μ_23 = gsI μ_20 10 r0 23 v_21 → (((μ_23.1 10 r0 23) = (-1 : Int32)) → ((((μ_23.1 10 r0 20) - (μ_23.1 10 r0 21)) ≤ (6 : Int32)) → pt_X10_token_3 l D d q Γ r0 r0 (1 : Int32) μ_23) ∧ ((¬ ((μ_23.1 10 r0 20) - (μ_23.1 10 r0 21)) ≤ (6 : Int32)) → pt_X10_token_3 l D d q Γ r0 r0 (5 : Int32) μ_23)) ∧ ((¬ (μ_23.1 10 r0 23) = (-1 : Int32)) → pt_X10_token_3 l D d q Γ r0 r0 (0 : Int32) μ_23)) ∧ ((¬ v_13 = 0) → ∀ μ_26 : gMem, μ_26 = gsI μ_12 10 r0 20 ((μ_12.1 10 r0 20) + (1 : Int32)) → pt_X10_token_2 l D d q Γ r0 μ_26)) : pt_X10_token_2 l D d q Γ r0 μ := by
  unfold pt_X10_token_2
  refine g_aload_n dX10_token_64 rfl ?_
  obtain ⟨d_1, q_2, hd_3, hc_4, h⟩ := h
  refine g_cV ca_X10_157 ob_10 hc_4 hd_3 (by decide) hr0 rfl rfl (by first | exact Nat.le_of_ble_eq_true rfl | decide) dX10_token_65 (kI (fun v_6 μ_5 hq_7 => ?_))
  have h := h v_6 μ_5 hq_7
  obtain ⟨d_8, q_9, hd_10, hc_11, h⟩ := h
  refine g_callS ca_X10_167 hc_11 hd_10 (by decide) rfl rfl (by first | exact Nat.le_of_ble_eq_true rfl | decide) dX10_token_68 (kI (fun v_13 μ_12 hq_14 => ?_))
  have h := h v_13 μ_12 hq_14
  refine g_if_eq (tgt := 87) dX10_token_71 (by decide) (fun c_15 => ?_) (fun c_15 => ?_)
  · have h := h.1 c_15
    refine g_aload_n dX10_token_87 rfl ?_
    refine g_aload_n dX10_token_88 rfl ?_
    obtain ⟨d_16, q_17, hd_18, hc_19, h⟩ := h
    refine g_cV ca_X10_171 ob_10 hc_19 hd_18 (by decide) hr0 rfl rfl (by first | exact Nat.le_of_ble_eq_true rfl | decide) dX10_token_89 (kI (fun v_21 μ_20 hq_22 => ?_))
    have h := h v_21 μ_20 hq_22
    refine g_pfI fi_10_174 hr0 rfl rfl dX10_token_92 ?_
    obtain ⟨μ_23, eμ_23⟩ : ∃ z : gMem, z = gsI μ_20 10 r0 23 v_21 := ⟨_, rfl⟩
    have h := h μ_23 eμ_23
    refine g_mem eμ_23.symm ?_
    refine g_aload_n dX10_token_95 rfl ?_
    refine g_aload_n dX10_token_96 rfl ?_
    refine g_gfI fi_10_174 hr0 dX10_token_97 ?_
    refine g_iconst (-1 : Int32) dX10_token_100 rfl ?_
    refine g_icmp_eq (tgt := 108) dX10_token_101 (by decide) (fun c_24 => ?_) (fun c_24 => ?_)
    · have h := h.1 c_24
      refine g_aload_n dX10_token_108 rfl ?_
      refine g_gfI fi_10_151 hr0 dX10_token_109 ?_
      refine g_aload_n dX10_token_112 rfl ?_
      refine g_gfI fi_10_161 hr0 dX10_token_113 ?_
      refine g_isub dX10_token_116 ?_
      refine g_bipush (6 : Int32) dX10_token_117 rfl ?_
      refine g_icmp_le (tgt := 126) dX10_token_119 (by decide) (fun c_25 => ?_) (fun c_25 => ?_)
      · have h := h.1 c_25
        refine g_iconst (1 : Int32) dX10_token_126 rfl ?_
        exact g_sub [0] rfl h
      · have h := h.2 c_25
        refine g_iconst (5 : Int32) dX10_token_122 rfl ?_
        refine g_goto (tgt := 127) dX10_token_123 (by decide) ?_
        exact g_sub [0] rfl h
    · have h := h.2 c_24
      refine g_iconst (0 : Int32) dX10_token_104 rfl ?_
      refine g_goto (tgt := 127) dX10_token_105 (by decide) ?_
      exact g_sub [0] rfl h
  · have h := h.2 c_15
    refine g_aload_n dX10_token_74 rfl ?_
    refine g_dup dX10_token_75 rfl ?_
    refine g_gfI fi_10_151 hr0 dX10_token_76 ?_
    refine g_iconst (1 : Int32) dX10_token_79 rfl ?_
    refine g_iadd dX10_token_80 ?_
    refine g_pfI fi_10_151 hr0 rfl rfl dX10_token_81 ?_
    obtain ⟨μ_26, eμ_26⟩ : ∃ z : gMem, z = gsI μ_12 10 r0 20 ((μ_12.1 10 r0 20) + (1 : Int32)) := ⟨_, rfl⟩
    have h := h μ_26 eμ_26
    refine g_mem eμ_26.symm ?_
    refine g_goto (tgt := 64) dX10_token_84 (by decide) ?_
    exact g_sub [0] rfl h
set_option maxRecDepth 20000 in
set_option maxHeartbeats 4000000 in
theorem bl_X10_token_3 {l : Launch} {D : gD} {d : Nat} {q : gMem → Prop} {Γ : gC} {r0 : Nat} {rs0 : Nat} {xs1 : Int32} {μ : gMem} (hr0 : r0 < 1) (hrs0 : rs0 < 1) (h : ∀ μ_1 : gMem, μ_1 = gsI μ 10 rs0 22 xs1 → ((¬ (μ_1.1 10 r0 22) = (1 : Int32)) → q μ_1) ∧ (((μ_1.1 10 r0 22) = (1 : Int32)) → ∃ (d_3 : Nat) (q_4 : gMem → Prop), d_3 < d ∧ Ctr l D d_3 yX10_name cX10_name 2 none [.ref (D.2.2 10 r0)] μ_1 (pV q_4) ∧ ∀ (μ_7 : gMem), q_4 μ_7 → q μ_7)) : pt_X10_token_3 l D d q Γ r0 rs0 xs1 μ := by
  unfold pt_X10_token_3
  refine g_pfI fi_10_164 hrs0 rfl rfl dX10_token_127 ?_
  obtain ⟨μ_1, eμ_1⟩ : ∃ z : gMem, z = gsI μ 10 rs0 22 xs1 := ⟨_, rfl⟩
  have h := h μ_1 eμ_1
  refine g_mem eμ_1.symm ?_
  refine g_aload_n dX10_token_130 rfl ?_
  refine g_gfI fi_10_164 hr0 dX10_token_131 ?_
  refine g_iconst (1 : Int32) dX10_token_134 rfl ?_
  refine g_icmp_ne (tgt := 225) dX10_token_135 (by decide) (fun c_2 => ?_) (fun c_2 => ?_)
  · have h := h.1 c_2
    exact g_vret dX10_token_225 rfl ⟨rfl, h⟩
  · have h := h.2 c_2
    refine g_aload_n dX10_token_138 rfl ?_
    obtain ⟨d_3, q_4, hd_5, hc_6, h⟩ := h
    refine g_cV ca_X10_177 ob_10 hc_6 hd_5 (by decide) hr0 rfl rfl (by first | exact Nat.le_of_ble_eq_true rfl | decide) dX10_token_139 (kV (fun μ_7 hq_9 => ?_))
    have h := h μ_7 hq_9
    refine g_goto (tgt := 225) dX10_token_142 (by decide) ?_
    exact g_vret dX10_token_225 rfl ⟨rfl, h⟩
set_option maxRecDepth 20000 in
set_option maxHeartbeats 4000000 in
theorem bl_X10_token_4 {l : Launch} {D : gD} {d : Nat} {q : gMem → Prop} {Γ : gC} {r0 : Nat} {μ : gMem} (hr0 : r0 < 1) (h : ∃ (d_1 : Nat) (q_2 : Int32 → gMem → Prop), d_1 < d ∧ Ctr l D d_1 yX10_here cX10_here 1 (some .int) [.ref (D.2.2 10 r0)] μ (pI q_2) ∧ ∀ (v_6 : Int32) (μ_5 : gMem), q_2 v_6 μ_5 → ∃ (d_8 : Nat) (q_9 : Int32 → gMem → Prop), d_8 < d ∧ Ctr l D d_8 yX10_isDigit cX10_isDigit 1 (some .boolean) [.int v_6] μ_5 (pI q_9) ∧ ∀ (v_13 : Int32) (μ_12 : gMem), q_9 v_13 μ_12 → ((v_13 = 0) → q μ_12) ∧ ((¬ v_13 = 0) → (((μ_12.1 10 r0 23) ≤ (99999 : Int32)) → ∃ (d_17 : Nat) (q_18 : Int32 → gMem → Prop), d_17 < d ∧ Ctr l D d_17 yX10_here cX10_here 1 (some .int) [.ref (D.2.2 10 r0)] μ_12 (pI q_18) ∧ ∀ (v_22 : Int32) (μ_21 : gMem), q_18 v_22 μ_21 → pt_X10_token_5 l D d q Γ r0 r0 ((((10 : Int32) * (μ_12.1 10 r0 23)) + v_22) - (48 : Int32)) μ_21) ∧ ((¬ (μ_12.1 10 r0 23) ≤ (99999 : Int32)) → pt_X10_token_5 l D d q Γ r0 r0 (μ_12.1 10 r0 23) μ_12))) : pt_X10_token_4 l D d q Γ r0 μ := by
  unfold pt_X10_token_4
  refine g_aload_n dX10_token_162 rfl ?_
  obtain ⟨d_1, q_2, hd_3, hc_4, h⟩ := h
  refine g_cV ca_X10_157 ob_10 hc_4 hd_3 (by decide) hr0 rfl rfl (by first | exact Nat.le_of_ble_eq_true rfl | decide) dX10_token_163 (kI (fun v_6 μ_5 hq_7 => ?_))
  have h := h v_6 μ_5 hq_7
  obtain ⟨d_8, q_9, hd_10, hc_11, h⟩ := h
  refine g_callS ca_X10_180 hc_11 hd_10 (by decide) rfl rfl (by first | exact Nat.le_of_ble_eq_true rfl | decide) dX10_token_166 (kI (fun v_13 μ_12 hq_14 => ?_))
  have h := h v_13 μ_12 hq_14
  refine g_if_eq (tgt := 225) dX10_token_169 (by decide) (fun c_15 => ?_) (fun c_15 => ?_)
  · have h := h.1 c_15
    exact g_vret dX10_token_225 rfl ⟨rfl, h⟩
  · have h := h.2 c_15
    refine g_aload_n dX10_token_172 rfl ?_
    refine g_aload_n dX10_token_173 rfl ?_
    refine g_gfI fi_10_174 hr0 dX10_token_174 ?_
    refine g_ldc kc_X10_183 dX10_token_177 ?_
    refine g_icmp_le (tgt := 189) dX10_token_179 (by decide) (fun c_16 => ?_) (fun c_16 => ?_)
    · have h := h.1 c_16
      refine g_bipush (10 : Int32) dX10_token_189 rfl ?_
      refine g_aload_n dX10_token_191 rfl ?_
      refine g_gfI fi_10_174 hr0 dX10_token_192 ?_
      refine g_imul dX10_token_195 ?_
      refine g_aload_n dX10_token_196 rfl ?_
      obtain ⟨d_17, q_18, hd_19, hc_20, h⟩ := h
      refine g_cV ca_X10_157 ob_10 hc_20 hd_19 (by decide) hr0 rfl rfl (by first | exact Nat.le_of_ble_eq_true rfl | decide) dX10_token_197 (kI (fun v_22 μ_21 hq_23 => ?_))
      have h := h v_22 μ_21 hq_23
      refine g_iadd dX10_token_200 ?_
      refine g_bipush (48 : Int32) dX10_token_201 rfl ?_
      refine g_isub dX10_token_203 ?_
      exact g_sub [0] rfl h
    · have h := h.2 c_16
      refine g_aload_n dX10_token_182 rfl ?_
      refine g_gfI fi_10_174 hr0 dX10_token_183 ?_
      refine g_goto (tgt := 204) dX10_token_186 (by decide) ?_
      exact g_sub [0] rfl h
set_option maxRecDepth 20000 in
set_option maxHeartbeats 4000000 in
theorem bl_X10_token_5 {l : Launch} {D : gD} {d : Nat} {q : gMem → Prop} {Γ : gC} {r0 : Nat} {rs0 : Nat} {xs1 : Int32} {μ : gMem} (hr0 : r0 < 1) (hrs0 : rs0 < 1) (h : ∀ μ_1 : gMem, μ_1 = gsI μ 10 rs0 23 xs1 → ∀ μ_2 : gMem, μ_2 = gsI μ_1 10 r0 20 ((μ_1.1 10 r0 20) + (1 : Int32)) → pt_X10_token_4 l D d q Γ r0 μ_2) : pt_X10_token_5 l D d q Γ r0 rs0 xs1 μ := by
  unfold pt_X10_token_5
  refine g_pfI fi_10_174 hrs0 rfl rfl dX10_token_204 ?_
  obtain ⟨μ_1, eμ_1⟩ : ∃ z : gMem, z = gsI μ 10 rs0 23 xs1 := ⟨_, rfl⟩
  have h := h μ_1 eμ_1
  refine g_mem eμ_1.symm ?_
  refine g_aload_n dX10_token_207 rfl ?_
  refine g_dup dX10_token_208 rfl ?_
  refine g_gfI fi_10_151 hr0 dX10_token_209 ?_
  refine g_iconst (1 : Int32) dX10_token_212 rfl ?_
  refine g_iadd dX10_token_213 ?_
  refine g_pfI fi_10_151 hr0 rfl rfl dX10_token_214 ?_
  obtain ⟨μ_2, eμ_2⟩ : ∃ z : gMem, z = gsI μ_1 10 r0 20 ((μ_1.1 10 r0 20) + (1 : Int32)) := ⟨_, rfl⟩
  have h := h μ_2 eμ_2
  refine g_mem eμ_2.symm ?_
  refine g_goto (tgt := 162) dX10_token_217 (by decide) ?_
  exact g_sub [0] rfl h
theorem en_X10_token {l : Launch} {D : gD} {d : Nat} {q : gMem → Prop} {r0 : Nat} {μ : gMem} (h : ∀ Γ : gC, pt_X10_token_0 l D d q Γ r0 μ) : Ctr l D d yX10_token cX10_token 2 none [.ref (D.2.2 10 r0)] μ (pV q) :=
  Ctr_of rfl (by decide) (Nat.le_of_ble_eq_true rfl) (fun Γ => g_sub [0] rfl (h Γ))
def pt_X10_sign_0 (l : Launch) (D : gD) (d : Nat) (q : gMem → Prop) (Γ : gC) (r0 : Nat) (x1 : Int32) (μ : gMem) : Prop := G l D RX10 cX10_sign 2 none d (pV q) Γ 0 [(0, .ref (D.2.2 10 r0)), (1, .int x1)] [] μ
def pt_X10_sign_1 (l : Launch) (D : gD) (d : Nat) (q : gMem → Prop) (Γ : gC) (r0 : Nat) (x1 : Int32) (rs0 : Nat) (μ : gMem) : Prop := G l D RX10 cX10_sign 2 none d (pV q) Γ 71 [(0, .ref (D.2.2 10 r0)), (1, .int x1)] [.ref (D.2.2 10 rs0)] μ
def pt_X10_sign_2 (l : Launch) (D : gD) (d : Nat) (q : gMem → Prop) (Γ : gC) (r0 : Nat) (x1 : Int32) (rs0 : Nat) (xs1 : Int32) (μ : gMem) : Prop := G l D RX10 cX10_sign 2 none d (pV q) Γ 76 [(0, .ref (D.2.2 10 r0)), (1, .int x1)] [.int xs1, .ref (D.2.2 10 rs0)] μ
def pt_X10_sign_3 (l : Launch) (D : gD) (d : Nat) (q : gMem → Prop) (Γ : gC) (r0 : Nat) (x1 : Int32) (μ : gMem) : Prop := G l D RX10 cX10_sign 2 none d (pV q) Γ 106 [(0, .ref (D.2.2 10 r0)), (1, .int x1)] [] μ
def pt_X10_sign_4 (l : Launch) (D : gD) (d : Nat) (q : gMem → Prop) (Γ : gC) (r0 : Nat) (x1 : Int32) (μ : gMem) : Prop := G l D RX10 cX10_sign 2 none d (pV q) Γ 128 [(0, .ref (D.2.2 10 r0)), (1, .int x1)] [] μ
def pt_X10_sign_5 (l : Launch) (D : gD) (d : Nat) (q : gMem → Prop) (Γ : gC) (r0 : Nat) (μ : gMem) : Prop := G l D RX10 cX10_sign 2 none d (pV q) Γ 150 [(0, .ref (D.2.2 10 r0))] [] μ
set_option maxRecDepth 20000 in
set_option maxHeartbeats 4000000 in
theorem bl_X10_sign_0 {l : Launch} {D : gD} {d : Nat} {q : gMem → Prop} {Γ : gC} {r0 : Nat} {x1 : Int32} {μ : gMem} (hr0 : r0 < 1) (h : ∀ μ_1 : gMem, μ_1 = gsI μ 10 r0 20 ((μ.1 10 r0 20) + (1 : Int32)) → ((x1 = (59 : Int32)) → pt_X10_sign_1 l D d q Γ r0 x1 r0 μ_1) ∧ ((¬ x1 = (59 : Int32)) → ((x1 = (40 : Int32)) → pt_X10_sign_1 l D d q Γ r0 x1 r0 μ_1) ∧ ((¬ x1 = (40 : Int32)) → ((x1 = (41 : Int32)) → pt_X10_sign_1 l D d q Γ r0 x1 r0 μ_1) ∧ ((¬ x1 = (41 : Int32)) → ((x1 = (43 : Int32)) → pt_X10_sign_1 l D d q Γ r0 x1 r0 μ_1) ∧ ((¬ x1 = (43 : Int32)) → ((x1 = (45 : Int32)) → pt_X10_sign_1 l D d q Γ r0 x1 r0 μ_1) ∧ ((¬ x1 = (45 : Int32)) → ((x1 = (42 : Int32)) → pt_X10_sign_1 l D d q Γ r0 x1 r0 μ_1) ∧ ((¬ x1 = (42 : Int32)) → ((x1 = (47 : Int32)) → pt_X10_sign_1 l D d q Γ r0 x1 r0 μ_1) ∧ ((¬ x1 = (47 : Int32)) → ((x1 = (60 : Int32)) → pt_X10_sign_1 l D d q Γ r0 x1 r0 μ_1) ∧ ((¬ x1 = (60 : Int32)) → ((x1 = (61 : Int32)) → pt_X10_sign_1 l D d q Γ r0 x1 r0 μ_1) ∧ ((¬ x1 = (61 : Int32)) → ((¬ x1 = (62 : Int32)) → pt_X10_sign_2 l D d q Γ r0 x1 r0 (5 : Int32) μ_1) ∧ ((x1 = (62 : Int32)) → pt_X10_sign_1 l D d q Γ r0 x1 r0 μ_1))))))))))) : pt_X10_sign_0 l D d q Γ r0 x1 μ := by
  unfold pt_X10_sign_0
  refine g_aload_n dX10_sign_0 rfl ?_
  refine g_dup dX10_sign_1 rfl ?_
  refine g_gfI fi_10_151 hr0 dX10_sign_2 ?_
  refine g_iconst (1 : Int32) dX10_sign_5 rfl ?_
  refine g_iadd dX10_sign_6 ?_
  refine g_pfI fi_10_151 hr0 rfl rfl dX10_sign_7 ?_
  obtain ⟨μ_1, eμ_1⟩ : ∃ z : gMem, z = gsI μ 10 r0 20 ((μ.1 10 r0 20) + (1 : Int32)) := ⟨_, rfl⟩
  have h := h μ_1 eμ_1
  refine g_mem eμ_1.symm ?_
  refine g_aload_n dX10_sign_10 rfl ?_
  refine g_iload_n dX10_sign_11 rfl ?_
  refine g_bipush (59 : Int32) dX10_sign_12 rfl ?_
  refine g_icmp_eq (tgt := 71) dX10_sign_14 (by decide) (fun c_2 => ?_) (fun c_2 => ?_)
  · have h := h.1 c_2
    exact g_sub [0, 1] rfl h
  · have h := h.2 c_2
    refine g_iload_n dX10_sign_17 rfl ?_
    refine g_bipush (40 : Int32) dX10_sign_18 rfl ?_
    refine g_icmp_eq (tgt := 71) dX10_sign_20 (by decide) (fun c_3 => ?_) (fun c_3 => ?_)
    · have h := h.1 c_3
      exact g_sub [0, 1] rfl h
    · have h := h.2 c_3
      refine g_iload_n dX10_sign_23 rfl ?_
      refine g_bipush (41 : Int32) dX10_sign_24 rfl ?_
      refine g_icmp_eq (tgt := 71) dX10_sign_26 (by decide) (fun c_4 => ?_) (fun c_4 => ?_)
      · have h := h.1 c_4
        exact g_sub [0, 1] rfl h
      · have h := h.2 c_4
        refine g_iload_n dX10_sign_29 rfl ?_
        refine g_bipush (43 : Int32) dX10_sign_30 rfl ?_
        refine g_icmp_eq (tgt := 71) dX10_sign_32 (by decide) (fun c_5 => ?_) (fun c_5 => ?_)
        · have h := h.1 c_5
          exact g_sub [0, 1] rfl h
        · have h := h.2 c_5
          refine g_iload_n dX10_sign_35 rfl ?_
          refine g_bipush (45 : Int32) dX10_sign_36 rfl ?_
          refine g_icmp_eq (tgt := 71) dX10_sign_38 (by decide) (fun c_6 => ?_) (fun c_6 => ?_)
          · have h := h.1 c_6
            exact g_sub [0, 1] rfl h
          · have h := h.2 c_6
            refine g_iload_n dX10_sign_41 rfl ?_
            refine g_bipush (42 : Int32) dX10_sign_42 rfl ?_
            refine g_icmp_eq (tgt := 71) dX10_sign_44 (by decide) (fun c_7 => ?_) (fun c_7 => ?_)
            · have h := h.1 c_7
              exact g_sub [0, 1] rfl h
            · have h := h.2 c_7
              refine g_iload_n dX10_sign_47 rfl ?_
              refine g_bipush (47 : Int32) dX10_sign_48 rfl ?_
              refine g_icmp_eq (tgt := 71) dX10_sign_50 (by decide) (fun c_8 => ?_) (fun c_8 => ?_)
              · have h := h.1 c_8
                exact g_sub [0, 1] rfl h
              · have h := h.2 c_8
                refine g_iload_n dX10_sign_53 rfl ?_
                refine g_bipush (60 : Int32) dX10_sign_54 rfl ?_
                refine g_icmp_eq (tgt := 71) dX10_sign_56 (by decide) (fun c_9 => ?_) (fun c_9 => ?_)
                · have h := h.1 c_9
                  exact g_sub [0, 1] rfl h
                · have h := h.2 c_9
                  refine g_iload_n dX10_sign_59 rfl ?_
                  refine g_bipush (61 : Int32) dX10_sign_60 rfl ?_
                  refine g_icmp_eq (tgt := 71) dX10_sign_62 (by decide) (fun c_10 => ?_) (fun c_10 => ?_)
                  · have h := h.1 c_10
                    exact g_sub [0, 1] rfl h
                  · have h := h.2 c_10
                    refine g_iload_n dX10_sign_65 rfl ?_
                    refine g_bipush (62 : Int32) dX10_sign_66 rfl ?_
                    refine g_icmp_ne (tgt := 75) dX10_sign_68 (by decide) (fun c_11 => ?_) (fun c_11 => ?_)
                    · have h := h.1 c_11
                      refine g_iconst (5 : Int32) dX10_sign_75 rfl ?_
                      exact g_sub [0, 1] rfl h
                    · have h := h.2 c_11
                      exact g_sub [0, 1] rfl h
set_option maxRecDepth 20000 in
set_option maxHeartbeats 4000000 in
theorem bl_X10_sign_1 {l : Launch} {D : gD} {d : Nat} {q : gMem → Prop} {Γ : gC} {r0 : Nat} {x1 : Int32} {rs0 : Nat} {μ : gMem} (hr0 : r0 < 1) (hrs0 : rs0 < 1) (h : pt_X10_sign_2 l D d q Γ r0 x1 rs0 (3 : Int32) μ) : pt_X10_sign_1 l D d q Γ r0 x1 rs0 μ := by
  unfold pt_X10_sign_1
  refine g_iconst (3 : Int32) dX10_sign_71 rfl ?_
  refine g_goto (tgt := 76) dX10_sign_72 (by decide) ?_
  exact g_sub [0, 1] rfl h
set_option maxRecDepth 20000 in
set_option maxHeartbeats 4000000 in
theorem bl_X10_sign_2 {l : Launch} {D : gD} {d : Nat} {q : gMem → Prop} {Γ : gC} {r0 : Nat} {x1 : Int32} {rs0 : Nat} {xs1 : Int32} {μ : gMem} (hr0 : r0 < 1) (hrs0 : rs0 < 1) (h : ∀ μ_1 : gMem, μ_1 = gsI μ 10 rs0 22 xs1 → ∀ μ_2 : gMem, μ_2 = gsI μ_1 10 r0 23 x1 → ((¬ x1 = (60 : Int32)) → pt_X10_sign_3 l D d q Γ r0 x1 μ_2) ∧ ((x1 = (60 : Int32)) → ∃ (d_4 : Nat) (q_5 : Int32 → gMem → Prop), d_4 < d ∧ Ctr l D d_4 yX10_here cX10_here 1 (some .int) [.ref (D.2.2 10 r0)] μ_2 (pI q_5) ∧ ∀ (v_9 : Int32) (μ_8 : gMem), q_5 v_9 μ_8 → ((¬ v_9 = (61 : Int32)) → pt_X10_sign_3 l D d q Γ r0 x1 μ_8) ∧ ((v_9 = (61 : Int32)) → ∀ μ_12 : gMem, μ_12 = gsI μ_8 10 r0 23 (256 : Int32) → pt_X10_sign_3 l D d q Γ r0 x1 μ_12))) : pt_X10_sign_2 l D d q Γ r0 x1 rs0 xs1 μ := by
  unfold pt_X10_sign_2
  refine g_pfI fi_10_164 hrs0 rfl rfl dX10_sign_76 ?_
  obtain ⟨μ_1, eμ_1⟩ : ∃ z : gMem, z = gsI μ 10 rs0 22 xs1 := ⟨_, rfl⟩
  have h := h μ_1 eμ_1
  refine g_mem eμ_1.symm ?_
  refine g_aload_n dX10_sign_79 rfl ?_
  refine g_iload_n dX10_sign_80 rfl ?_
  refine g_pfI fi_10_174 hr0 rfl rfl dX10_sign_81 ?_
  obtain ⟨μ_2, eμ_2⟩ : ∃ z : gMem, z = gsI μ_1 10 r0 23 x1 := ⟨_, rfl⟩
  have h := h μ_2 eμ_2
  refine g_mem eμ_2.symm ?_
  refine g_iload_n dX10_sign_84 rfl ?_
  refine g_bipush (60 : Int32) dX10_sign_85 rfl ?_
  refine g_icmp_ne (tgt := 106) dX10_sign_87 (by decide) (fun c_3 => ?_) (fun c_3 => ?_)
  · have h := h.1 c_3
    exact g_sub [0, 1] rfl h
  · have h := h.2 c_3
    refine g_aload_n dX10_sign_90 rfl ?_
    obtain ⟨d_4, q_5, hd_6, hc_7, h⟩ := h
    refine g_cV ca_X10_157 ob_10 hc_7 hd_6 (by decide) hr0 rfl rfl (by first | exact Nat.le_of_ble_eq_true rfl | decide) dX10_sign_91 (kI (fun v_9 μ_8 hq_10 => ?_))
    have h := h v_9 μ_8 hq_10
    refine g_bipush (61 : Int32) dX10_sign_94 rfl ?_
    refine g_icmp_ne (tgt := 106) dX10_sign_96 (by decide) (fun c_11 => ?_) (fun c_11 => ?_)
    · have h := h.1 c_11
      exact g_sub [0, 1] rfl h
    · have h := h.2 c_11
      refine g_aload_n dX10_sign_99 rfl ?_
      refine g_sipush (256 : Int32) dX10_sign_100 rfl ?_
      refine g_pfI fi_10_174 hr0 rfl rfl dX10_sign_103 ?_
      obtain ⟨μ_12, eμ_12⟩ : ∃ z : gMem, z = gsI μ_8 10 r0 23 (256 : Int32) := ⟨_, rfl⟩
      have h := h μ_12 eμ_12
      refine g_mem eμ_12.symm ?_
      exact g_sub [0, 1] rfl h
set_option maxRecDepth 20000 in
set_option maxHeartbeats 4000000 in
theorem bl_X10_sign_3 {l : Launch} {D : gD} {d : Nat} {q : gMem → Prop} {Γ : gC} {r0 : Nat} {x1 : Int32} {μ : gMem} (hr0 : r0 < 1) (h : ((¬ x1 = (60 : Int32)) → pt_X10_sign_4 l D d q Γ r0 x1 μ) ∧ ((x1 = (60 : Int32)) → ∃ (d_2 : Nat) (q_3 : Int32 → gMem → Prop), d_2 < d ∧ Ctr l D d_2 yX10_here cX10_here 1 (some .int) [.ref (D.2.2 10 r0)] μ (pI q_3) ∧ ∀ (v_7 : Int32) (μ_6 : gMem), q_3 v_7 μ_6 → ((¬ v_7 = (62 : Int32)) → pt_X10_sign_4 l D d q Γ r0 x1 μ_6) ∧ ((v_7 = (62 : Int32)) → ∀ μ_10 : gMem, μ_10 = gsI μ_6 10 r0 23 (257 : Int32) → pt_X10_sign_4 l D d q Γ r0 x1 μ_10))) : pt_X10_sign_3 l D d q Γ r0 x1 μ := by
  unfold pt_X10_sign_3
  refine g_iload_n dX10_sign_106 rfl ?_
  refine g_bipush (60 : Int32) dX10_sign_107 rfl ?_
  refine g_icmp_ne (tgt := 128) dX10_sign_109 (by decide) (fun c_1 => ?_) (fun c_1 => ?_)
  · have h := h.1 c_1
    exact g_sub [0, 1] rfl h
  · have h := h.2 c_1
    refine g_aload_n dX10_sign_112 rfl ?_
    obtain ⟨d_2, q_3, hd_4, hc_5, h⟩ := h
    refine g_cV ca_X10_157 ob_10 hc_5 hd_4 (by decide) hr0 rfl rfl (by first | exact Nat.le_of_ble_eq_true rfl | decide) dX10_sign_113 (kI (fun v_7 μ_6 hq_8 => ?_))
    have h := h v_7 μ_6 hq_8
    refine g_bipush (62 : Int32) dX10_sign_116 rfl ?_
    refine g_icmp_ne (tgt := 128) dX10_sign_118 (by decide) (fun c_9 => ?_) (fun c_9 => ?_)
    · have h := h.1 c_9
      exact g_sub [0, 1] rfl h
    · have h := h.2 c_9
      refine g_aload_n dX10_sign_121 rfl ?_
      refine g_sipush (257 : Int32) dX10_sign_122 rfl ?_
      refine g_pfI fi_10_174 hr0 rfl rfl dX10_sign_125 ?_
      obtain ⟨μ_10, eμ_10⟩ : ∃ z : gMem, z = gsI μ_6 10 r0 23 (257 : Int32) := ⟨_, rfl⟩
      have h := h μ_10 eμ_10
      refine g_mem eμ_10.symm ?_
      exact g_sub [0, 1] rfl h
set_option maxRecDepth 20000 in
set_option maxHeartbeats 4000000 in
theorem bl_X10_sign_4 {l : Launch} {D : gD} {d : Nat} {q : gMem → Prop} {Γ : gC} {r0 : Nat} {x1 : Int32} {μ : gMem} (hr0 : r0 < 1) (h : ((¬ x1 = (62 : Int32)) → pt_X10_sign_5 l D d q Γ r0 μ) ∧ ((x1 = (62 : Int32)) → ∃ (d_2 : Nat) (q_3 : Int32 → gMem → Prop), d_2 < d ∧ Ctr l D d_2 yX10_here cX10_here 1 (some .int) [.ref (D.2.2 10 r0)] μ (pI q_3) ∧ ∀ (v_7 : Int32) (μ_6 : gMem), q_3 v_7 μ_6 → ((¬ v_7 = (61 : Int32)) → pt_X10_sign_5 l D d q Γ r0 μ_6) ∧ ((v_7 = (61 : Int32)) → ∀ μ_10 : gMem, μ_10 = gsI μ_6 10 r0 23 (258 : Int32) → pt_X10_sign_5 l D d q Γ r0 μ_10))) : pt_X10_sign_4 l D d q Γ r0 x1 μ := by
  unfold pt_X10_sign_4
  refine g_iload_n dX10_sign_128 rfl ?_
  refine g_bipush (62 : Int32) dX10_sign_129 rfl ?_
  refine g_icmp_ne (tgt := 150) dX10_sign_131 (by decide) (fun c_1 => ?_) (fun c_1 => ?_)
  · have h := h.1 c_1
    exact g_sub [0] rfl h
  · have h := h.2 c_1
    refine g_aload_n dX10_sign_134 rfl ?_
    obtain ⟨d_2, q_3, hd_4, hc_5, h⟩ := h
    refine g_cV ca_X10_157 ob_10 hc_5 hd_4 (by decide) hr0 rfl rfl (by first | exact Nat.le_of_ble_eq_true rfl | decide) dX10_sign_135 (kI (fun v_7 μ_6 hq_8 => ?_))
    have h := h v_7 μ_6 hq_8
    refine g_bipush (61 : Int32) dX10_sign_138 rfl ?_
    refine g_icmp_ne (tgt := 150) dX10_sign_140 (by decide) (fun c_9 => ?_) (fun c_9 => ?_)
    · have h := h.1 c_9
      exact g_sub [0] rfl h
    · have h := h.2 c_9
      refine g_aload_n dX10_sign_143 rfl ?_
      refine g_sipush (258 : Int32) dX10_sign_144 rfl ?_
      refine g_pfI fi_10_174 hr0 rfl rfl dX10_sign_147 ?_
      obtain ⟨μ_10, eμ_10⟩ : ∃ z : gMem, z = gsI μ_6 10 r0 23 (258 : Int32) := ⟨_, rfl⟩
      have h := h μ_10 eμ_10
      refine g_mem eμ_10.symm ?_
      exact g_sub [0] rfl h
set_option maxRecDepth 20000 in
set_option maxHeartbeats 4000000 in
theorem bl_X10_sign_5 {l : Launch} {D : gD} {d : Nat} {q : gMem → Prop} {Γ : gC} {r0 : Nat} {μ : gMem} (hr0 : r0 < 1) (h : (((μ.1 10 r0 23) < (256 : Int32)) → q μ) ∧ ((¬ (μ.1 10 r0 23) < (256 : Int32)) → ∀ μ_2 : gMem, μ_2 = gsI μ 10 r0 20 ((μ.1 10 r0 20) + (1 : Int32)) → q μ_2)) : pt_X10_sign_5 l D d q Γ r0 μ := by
  unfold pt_X10_sign_5
  refine g_aload_n dX10_sign_150 rfl ?_
  refine g_gfI fi_10_174 hr0 dX10_sign_151 ?_
  refine g_sipush (256 : Int32) dX10_sign_154 rfl ?_
  refine g_icmp_lt (tgt := 170) dX10_sign_157 (by decide) (fun c_1 => ?_) (fun c_1 => ?_)
  · have h := h.1 c_1
    exact g_vret dX10_sign_170 rfl ⟨rfl, h⟩
  · have h := h.2 c_1
    refine g_aload_n dX10_sign_160 rfl ?_
    refine g_dup dX10_sign_161 rfl ?_
    refine g_gfI fi_10_151 hr0 dX10_sign_162 ?_
    refine g_iconst (1 : Int32) dX10_sign_165 rfl ?_
    refine g_iadd dX10_sign_166 ?_
    refine g_pfI fi_10_151 hr0 rfl rfl dX10_sign_167 ?_
    obtain ⟨μ_2, eμ_2⟩ : ∃ z : gMem, z = gsI μ 10 r0 20 ((μ.1 10 r0 20) + (1 : Int32)) := ⟨_, rfl⟩
    have h := h μ_2 eμ_2
    refine g_mem eμ_2.symm ?_
    exact g_vret dX10_sign_170 rfl ⟨rfl, h⟩
theorem en_X10_sign {l : Launch} {D : gD} {d : Nat} {q : gMem → Prop} {r0 : Nat} {x1 : Int32} {μ : gMem} (h : ∀ Γ : gC, pt_X10_sign_0 l D d q Γ r0 x1 μ) : Ctr l D d yX10_sign cX10_sign 2 none [.ref (D.2.2 10 r0), .int x1] μ (pV q) :=
  Ctr_of rfl (by decide) (Nat.le_of_ble_eq_true rfl) (fun Γ => g_sub [0, 1] rfl (h Γ))
def pt_X10_name_0 (l : Launch) (D : gD) (d : Nat) (q : gMem → Prop) (Γ : gC) (r0 : Nat) (μ : gMem) : Prop := G l D RX10 cX10_name 2 none d (pV q) Γ 0 [(0, .ref (D.2.2 10 r0))] [] μ
def pt_X10_name_1 (l : Launch) (D : gD) (d : Nat) (q : gMem → Prop) (Γ : gC) (r0 : Nat) (x1 : Int32) (μ : gMem) : Prop := G l D RX10 cX10_name 2 none d (pV q) Γ 7 [(0, .ref (D.2.2 10 r0)), (1, .int x1)] [] μ
def pt_X10_name_2 (l : Launch) (D : gD) (d : Nat) (q : gMem → Prop) (Γ : gC) (r0 : Nat) (x1 : Int32) (rs0 : Nat) (xs1 : Int32) (xs2 : Int32) (μ : gMem) : Prop := G l D RX10 cX10_name 2 none d (pV q) Γ 53 [(0, .ref (D.2.2 10 r0)), (1, .int x1)] [.int xs2, .int xs1, .ref (D.2.2 10 rs0)] μ
set_option maxRecDepth 20000 in
set_option maxHeartbeats 4000000 in
theorem bl_X10_name_0 {l : Launch} {D : gD} {d : Nat} {q : gMem → Prop} {Γ : gC} {r0 : Nat} {μ : gMem} (hr0 : r0 < 1) (h : ∀ μ_1 : gMem, μ_1 = gsI μ 10 r0 23 (0 : Int32) → ∀ x1_2 : Int32, x1_2 = (0 : Int32) → pt_X10_name_1 l D d q Γ r0 x1_2 μ_1) : pt_X10_name_0 l D d q Γ r0 μ := by
  unfold pt_X10_name_0
  refine g_aload_n dX10_name_0 rfl ?_
  refine g_iconst (0 : Int32) dX10_name_1 rfl ?_
  refine g_pfI fi_10_174 hr0 rfl rfl dX10_name_2 ?_
  obtain ⟨μ_1, eμ_1⟩ : ∃ z : gMem, z = gsI μ 10 r0 23 (0 : Int32) := ⟨_, rfl⟩
  have h := h μ_1 eμ_1
  refine g_mem eμ_1.symm ?_
  refine g_iconst (0 : Int32) dX10_name_5 rfl ?_
  refine g_istore_n dX10_name_6 (by decide) (fun x1_2 ex1_2 => g_sub (lv' := [(0, .ref (D.2.2 10 r0)), (1, .int x1_2)]) [1, 0] rfl ?_)
  have h := h x1_2 ex1_2
  exact g_sub [0, 1] rfl h
set_option maxRecDepth 20000 in
set_option maxHeartbeats 4000000 in
theorem bl_X10_name_1 {l : Launch} {D : gD} {d : Nat} {q : gMem → Prop} {Γ : gC} {r0 : Nat} {x1 : Int32} {μ : gMem} (hr0 : r0 < 1) (h : (((6 : Int32) ≤ x1) → q μ) ∧ ((¬ (6 : Int32) ≤ x1) → (((μ.1 10 r0 20) ≤ ((μ.1 10 r0 21) + x1)) → pt_X10_name_2 l D d q Γ r0 x1 r0 ((μ.1 10 r0 23) <<< ((5 : Int32) &&& 31)) (0 : Int32) μ) ∧ ((¬ (μ.1 10 r0 20) ≤ ((μ.1 10 r0 21) + x1)) → ∃ j_3 : Nat, j_3 < 700 ∧ (μ.1 10 r0 21) + x1 = nI j_3 ∧ (pt_X10_name_2 l D d q Γ r0 x1 r0 ((μ.1 10 r0 23) <<< ((5 : Int32) &&& 31)) (((μ.1 705 r0 j_3) - (97 : Int32)) + (1 : Int32)) μ)))) : pt_X10_name_1 l D d q Γ r0 x1 μ := by
  unfold pt_X10_name_1
  refine g_iload_n dX10_name_7 rfl ?_
  refine g_bipush (6 : Int32) dX10_name_8 rfl ?_
  refine g_icmp_ge (tgt := 63) dX10_name_10 (by decide) (fun c_1 => ?_) (fun c_1 => ?_)
  · have h := h.1 c_1
    exact g_vret dX10_name_63 rfl ⟨rfl, h⟩
  · have h := h.2 c_1
    refine g_aload_n dX10_name_13 rfl ?_
    refine g_aload_n dX10_name_14 rfl ?_
    refine g_gfI fi_10_174 hr0 dX10_name_15 ?_
    refine g_iconst (5 : Int32) dX10_name_18 rfl ?_
    refine g_ishl dX10_name_19 ?_
    refine g_aload_n dX10_name_20 rfl ?_
    refine g_gfI fi_10_161 hr0 dX10_name_21 ?_
    refine g_iload_n dX10_name_24 rfl ?_
    refine g_iadd dX10_name_25 ?_
    refine g_aload_n dX10_name_26 rfl ?_
    refine g_gfI fi_10_151 hr0 dX10_name_27 ?_
    refine g_icmp_ge (tgt := 52) dX10_name_30 (by decide) (fun c_2 => ?_) (fun c_2 => ?_)
    · have h := h.1 c_2
      refine g_iconst (0 : Int32) dX10_name_52 rfl ?_
      exact g_sub [0, 1] rfl h
    · have h := h.2 c_2
      refine g_aload_n dX10_name_33 rfl ?_
      refine g_gfR fl_10_7 rfl hr0 dX10_name_34 ?_
      refine g_aload_n dX10_name_37 rfl ?_
      refine g_gfI fi_10_161 hr0 dX10_name_38 ?_
      refine g_iload_n dX10_name_41 rfl ?_
      refine g_iadd dX10_name_42 ?_
      obtain ⟨j_3, hj_3, ej_3, h⟩ := h
      refine g_iald j_3 hr0 rfl hj_3 (by decide) ej_3 dX10_name_43 ?_
      refine g_bipush (97 : Int32) dX10_name_44 rfl ?_
      refine g_isub dX10_name_46 ?_
      refine g_iconst (1 : Int32) dX10_name_47 rfl ?_
      refine g_iadd dX10_name_48 ?_
      refine g_goto (tgt := 53) dX10_name_49 (by decide) ?_
      exact g_sub [0, 1] rfl h
set_option maxRecDepth 20000 in
set_option maxHeartbeats 4000000 in
theorem bl_X10_name_2 {l : Launch} {D : gD} {d : Nat} {q : gMem → Prop} {Γ : gC} {r0 : Nat} {x1 : Int32} {rs0 : Nat} {xs1 : Int32} {xs2 : Int32} {μ : gMem} (hr0 : r0 < 1) (hrs0 : rs0 < 1) (h : ∀ μ_1 : gMem, μ_1 = gsI μ 10 rs0 23 (xs1 ||| xs2) → ∀ x1_2 : Int32, x1_2 = x1 + (1 : Int32) → pt_X10_name_1 l D d q Γ r0 x1_2 μ_1) : pt_X10_name_2 l D d q Γ r0 x1 rs0 xs1 xs2 μ := by
  unfold pt_X10_name_2
  refine g_ior dX10_name_53 ?_
  refine g_pfI fi_10_174 hrs0 rfl rfl dX10_name_54 ?_
  obtain ⟨μ_1, eμ_1⟩ : ∃ z : gMem, z = gsI μ 10 rs0 23 (xs1 ||| xs2) := ⟨_, rfl⟩
  have h := h μ_1 eμ_1
  refine g_mem eμ_1.symm ?_
  refine g_iinc dX10_name_57 rfl (by decide) (fun x1_2 ex1_2 => g_sub (lv' := [(0, .ref (D.2.2 10 r0)), (1, .int x1_2)]) [1, 0] rfl ?_)
  have h := h x1_2 ex1_2
  refine g_goto (tgt := 7) dX10_name_60 (by decide) ?_
  exact g_sub [0, 1] rfl h
theorem en_X10_name {l : Launch} {D : gD} {d : Nat} {q : gMem → Prop} {r0 : Nat} {μ : gMem} (h : ∀ Γ : gC, pt_X10_name_0 l D d q Γ r0 μ) : Ctr l D d yX10_name cX10_name 2 none [.ref (D.2.2 10 r0)] μ (pV q) :=
  Ctr_of rfl (by decide) (Nat.le_of_ble_eq_true rfl) (fun Γ => g_sub [0] rfl (h Γ))
def pt_X10_wrong_0 (l : Launch) (D : gD) (d : Nat) (q : gMem → Prop) (Γ : gC) (r0 : Nat) (x1 : Int32) (μ : gMem) : Prop := G l D RX10 cX10_wrong 2 none d (pV q) Γ 0 [(0, .ref (D.2.2 10 r0)), (1, .int x1)] [] μ
set_option maxRecDepth 20000 in
set_option maxHeartbeats 4000000 in
theorem bl_X10_wrong_0 {l : Launch} {D : gD} {d : Nat} {q : gMem → Prop} {Γ : gC} {r0 : Nat} {x1 : Int32} {μ : gMem} (hr0 : r0 < 1) (h : (((μ.1 10 r0 24) = 0) → ∀ μ_2 : gMem, μ_2 = gsI μ 10 r0 24 x1 → ∀ μ_3 : gMem, μ_3 = gsI μ_2 10 r0 25 (μ_2.1 10 r0 21) → q μ_3) ∧ ((¬ (μ.1 10 r0 24) = 0) → q μ)) : pt_X10_wrong_0 l D d q Γ r0 x1 μ := by
  unfold pt_X10_wrong_0
  refine g_aload_n dX10_wrong_0 rfl ?_
  refine g_gfI fi_10_199 hr0 dX10_wrong_1 ?_
  refine g_if_eq (tgt := 8) dX10_wrong_4 (by decide) (fun c_1 => ?_) (fun c_1 => ?_)
  · have h := h.1 c_1
    refine g_aload_n dX10_wrong_8 rfl ?_
    refine g_iload_n dX10_wrong_9 rfl ?_
    refine g_pfI fi_10_199 hr0 rfl rfl dX10_wrong_10 ?_
    obtain ⟨μ_2, eμ_2⟩ : ∃ z : gMem, z = gsI μ 10 r0 24 x1 := ⟨_, rfl⟩
    have h := h μ_2 eμ_2
    refine g_mem eμ_2.symm ?_
    refine g_aload_n dX10_wrong_13 rfl ?_
    refine g_aload_n dX10_wrong_14 rfl ?_
    refine g_gfI fi_10_161 hr0 dX10_wrong_15 ?_
    refine g_pfI fi_10_202 hr0 rfl rfl dX10_wrong_18 ?_
    obtain ⟨μ_3, eμ_3⟩ : ∃ z : gMem, z = gsI μ_2 10 r0 25 (μ_2.1 10 r0 21) := ⟨_, rfl⟩
    have h := h μ_3 eμ_3
    refine g_mem eμ_3.symm ?_
    exact g_vret dX10_wrong_21 rfl ⟨rfl, h⟩
  · have h := h.2 c_1
    exact g_vret dX10_wrong_7 rfl ⟨rfl, h⟩
theorem en_X10_wrong {l : Launch} {D : gD} {d : Nat} {q : gMem → Prop} {r0 : Nat} {x1 : Int32} {μ : gMem} (h : ∀ Γ : gC, pt_X10_wrong_0 l D d q Γ r0 x1 μ) : Ctr l D d yX10_wrong cX10_wrong 2 none [.ref (D.2.2 10 r0), .int x1] μ (pV q) :=
  Ctr_of rfl (by decide) (Nat.le_of_ble_eq_true rfl) (fun Γ => g_sub [0, 1] rfl (h Γ))
def pt_X10_isWord_0 (l : Launch) (D : gD) (d : Nat) (q : Int32 → gMem → Prop) (Γ : gC) (r0 : Nat) (x1 : Int32) (μ : gMem) : Prop := G l D RX10 cX10_isWord 2 (some .boolean) d (pI q) Γ 0 [(0, .ref (D.2.2 10 r0)), (1, .int x1)] [] μ
set_option maxRecDepth 20000 in
set_option maxHeartbeats 4000000 in
theorem bl_X10_isWord_0 {l : Launch} {D : gD} {d : Nat} {q : Int32 → gMem → Prop} {Γ : gC} {r0 : Nat} {x1 : Int32} {μ : gMem} (hr0 : r0 < 1) (h : ((¬ (μ.1 10 r0 24) = 0) → q (0 : Int32) μ) ∧ (((μ.1 10 r0 24) = 0) → ((¬ (μ.1 10 r0 22) = 0) → q (0 : Int32) μ) ∧ (((μ.1 10 r0 22) = 0) → ((¬ (μ.1 10 r0 23) = x1) → q (0 : Int32) μ) ∧ (((μ.1 10 r0 23) = x1) → q (1 : Int32) μ)))) : pt_X10_isWord_0 l D d q Γ r0 x1 μ := by
  unfold pt_X10_isWord_0
  refine g_aload_n dX10_isWord_0 rfl ?_
  refine g_gfI fi_10_199 hr0 dX10_isWord_1 ?_
  refine g_if_ne (tgt := 26) dX10_isWord_4 (by decide) (fun c_1 => ?_) (fun c_1 => ?_)
  · have h := h.1 c_1
    refine g_iconst (0 : Int32) dX10_isWord_26 rfl ?_
    exact g_iret dX10_isWord_27 rfl rfl ⟨_, rfl, h⟩
  · have h := h.2 c_1
    refine g_aload_n dX10_isWord_7 rfl ?_
    refine g_gfI fi_10_164 hr0 dX10_isWord_8 ?_
    refine g_if_ne (tgt := 26) dX10_isWord_11 (by decide) (fun c_2 => ?_) (fun c_2 => ?_)
    · have h := h.1 c_2
      refine g_iconst (0 : Int32) dX10_isWord_26 rfl ?_
      exact g_iret dX10_isWord_27 rfl rfl ⟨_, rfl, h⟩
    · have h := h.2 c_2
      refine g_aload_n dX10_isWord_14 rfl ?_
      refine g_gfI fi_10_174 hr0 dX10_isWord_15 ?_
      refine g_iload_n dX10_isWord_18 rfl ?_
      refine g_icmp_ne (tgt := 26) dX10_isWord_19 (by decide) (fun c_3 => ?_) (fun c_3 => ?_)
      · have h := h.1 c_3
        refine g_iconst (0 : Int32) dX10_isWord_26 rfl ?_
        exact g_iret dX10_isWord_27 rfl rfl ⟨_, rfl, h⟩
      · have h := h.2 c_3
        refine g_iconst (1 : Int32) dX10_isWord_22 rfl ?_
        refine g_goto (tgt := 27) dX10_isWord_23 (by decide) ?_
        exact g_iret dX10_isWord_27 rfl rfl ⟨_, rfl, h⟩
theorem en_X10_isWord {l : Launch} {D : gD} {d : Nat} {q : Int32 → gMem → Prop} {r0 : Nat} {x1 : Int32} {μ : gMem} (h : ∀ Γ : gC, pt_X10_isWord_0 l D d q Γ r0 x1 μ) : Ctr l D d yX10_isWord cX10_isWord 2 (some .boolean) [.ref (D.2.2 10 r0), .int x1] μ (pI q) :=
  Ctr_of rfl (by decide) (Nat.le_of_ble_eq_true rfl) (fun Γ => g_sub [0, 1] rfl (h Γ))
def pt_X10_isSign_0 (l : Launch) (D : gD) (d : Nat) (q : Int32 → gMem → Prop) (Γ : gC) (r0 : Nat) (x1 : Int32) (μ : gMem) : Prop := G l D RX10 cX10_isSign 2 (some .boolean) d (pI q) Γ 0 [(0, .ref (D.2.2 10 r0)), (1, .int x1)] [] μ
set_option maxRecDepth 20000 in
set_option maxHeartbeats 4000000 in
theorem bl_X10_isSign_0 {l : Launch} {D : gD} {d : Nat} {q : Int32 → gMem → Prop} {Γ : gC} {r0 : Nat} {x1 : Int32} {μ : gMem} (hr0 : r0 < 1) (h : ((¬ (μ.1 10 r0 24) = 0) → q (0 : Int32) μ) ∧ (((μ.1 10 r0 24) = 0) → ((¬ (μ.1 10 r0 22) = (3 : Int32)) → q (0 : Int32) μ) ∧ (((μ.1 10 r0 22) = (3 : Int32)) → ((¬ (μ.1 10 r0 23) = x1) → q (0 : Int32) μ) ∧ (((μ.1 10 r0 23) = x1) → q (1 : Int32) μ)))) : pt_X10_isSign_0 l D d q Γ r0 x1 μ := by
  unfold pt_X10_isSign_0
  refine g_aload_n dX10_isSign_0 rfl ?_
  refine g_gfI fi_10_199 hr0 dX10_isSign_1 ?_
  refine g_if_ne (tgt := 27) dX10_isSign_4 (by decide) (fun c_1 => ?_) (fun c_1 => ?_)
  · have h := h.1 c_1
    refine g_iconst (0 : Int32) dX10_isSign_27 rfl ?_
    exact g_iret dX10_isSign_28 rfl rfl ⟨_, rfl, h⟩
  · have h := h.2 c_1
    refine g_aload_n dX10_isSign_7 rfl ?_
    refine g_gfI fi_10_164 hr0 dX10_isSign_8 ?_
    refine g_iconst (3 : Int32) dX10_isSign_11 rfl ?_
    refine g_icmp_ne (tgt := 27) dX10_isSign_12 (by decide) (fun c_2 => ?_) (fun c_2 => ?_)
    · have h := h.1 c_2
      refine g_iconst (0 : Int32) dX10_isSign_27 rfl ?_
      exact g_iret dX10_isSign_28 rfl rfl ⟨_, rfl, h⟩
    · have h := h.2 c_2
      refine g_aload_n dX10_isSign_15 rfl ?_
      refine g_gfI fi_10_174 hr0 dX10_isSign_16 ?_
      refine g_iload_n dX10_isSign_19 rfl ?_
      refine g_icmp_ne (tgt := 27) dX10_isSign_20 (by decide) (fun c_3 => ?_) (fun c_3 => ?_)
      · have h := h.1 c_3
        refine g_iconst (0 : Int32) dX10_isSign_27 rfl ?_
        exact g_iret dX10_isSign_28 rfl rfl ⟨_, rfl, h⟩
      · have h := h.2 c_3
        refine g_iconst (1 : Int32) dX10_isSign_23 rfl ?_
        refine g_goto (tgt := 28) dX10_isSign_24 (by decide) ?_
        exact g_iret dX10_isSign_28 rfl rfl ⟨_, rfl, h⟩
theorem en_X10_isSign {l : Launch} {D : gD} {d : Nat} {q : Int32 → gMem → Prop} {r0 : Nat} {x1 : Int32} {μ : gMem} (h : ∀ Γ : gC, pt_X10_isSign_0 l D d q Γ r0 x1 μ) : Ctr l D d yX10_isSign cX10_isSign 2 (some .boolean) [.ref (D.2.2 10 r0), .int x1] μ (pI q) :=
  Ctr_of rfl (by decide) (Nat.le_of_ble_eq_true rfl) (fun Γ => g_sub [0, 1] rfl (h Γ))
def pt_X10_goOn_0 (l : Launch) (D : gD) (d : Nat) (q : gMem → Prop) (Γ : gC) (r0 : Nat) (μ : gMem) : Prop := G l D RX10 cX10_goOn 1 none d (pV q) Γ 0 [(0, .ref (D.2.2 10 r0))] [] μ
set_option maxRecDepth 20000 in
set_option maxHeartbeats 4000000 in
theorem bl_X10_goOn_0 {l : Launch} {D : gD} {d : Nat} {q : gMem → Prop} {Γ : gC} {r0 : Nat} {μ : gMem} (hr0 : r0 < 1) (h : ((¬ (μ.1 10 r0 24) = 0) → q μ) ∧ (((μ.1 10 r0 24) = 0) → ∃ (d_2 : Nat) (q_3 : gMem → Prop), d_2 < d ∧ Ctr l D d_2 yX10_token cX10_token 2 none [.ref (D.2.2 10 r0)] μ (pV q_3) ∧ ∀ (μ_6 : gMem), q_3 μ_6 → q μ_6)) : pt_X10_goOn_0 l D d q Γ r0 μ := by
  unfold pt_X10_goOn_0
  refine g_aload_n dX10_goOn_0 rfl ?_
  refine g_gfI fi_10_199 hr0 dX10_goOn_1 ?_
  refine g_if_ne (tgt := 11) dX10_goOn_4 (by decide) (fun c_1 => ?_) (fun c_1 => ?_)
  · have h := h.1 c_1
    exact g_vret dX10_goOn_11 rfl ⟨rfl, h⟩
  · have h := h.2 c_1
    refine g_aload_n dX10_goOn_7 rfl ?_
    obtain ⟨d_2, q_3, hd_4, hc_5, h⟩ := h
    refine g_cV ca_X10_205 ob_10 hc_5 hd_4 (by decide) hr0 rfl rfl (by first | exact Nat.le_of_ble_eq_true rfl | decide) dX10_goOn_8 (kV (fun μ_6 hq_8 => ?_))
    have h := h μ_6 hq_8
    exact g_vret dX10_goOn_11 rfl ⟨rfl, h⟩
theorem en_X10_goOn {l : Launch} {D : gD} {d : Nat} {q : gMem → Prop} {r0 : Nat} {μ : gMem} (h : ∀ Γ : gC, pt_X10_goOn_0 l D d q Γ r0 μ) : Ctr l D d yX10_goOn cX10_goOn 1 none [.ref (D.2.2 10 r0)] μ (pV q) :=
  Ctr_of rfl (by decide) (Nat.le_of_ble_eq_true rfl) (fun Γ => g_sub [0] rfl (h Γ))
def pt_X10_numeral_0 (l : Launch) (D : gD) (d : Nat) (q : Int32 → gMem → Prop) (Γ : gC) (r0 : Nat) (x1 : Int32) (x2 : Int32) (μ : gMem) : Prop := G l D RX10 cX10_numeral 4 (some .int) d (pI q) Γ 0 [(0, .ref (D.2.2 10 r0)), (1, .int x1), (2, .int x2)] [] μ
def pt_X10_numeral_1 (l : Launch) (D : gD) (d : Nat) (q : Int32 → gMem → Prop) (Γ : gC) (r0 : Nat) (x1 : Int32) (μ : gMem) : Prop := G l D RX10 cX10_numeral 4 (some .int) d (pI q) Γ 41 [(0, .ref (D.2.2 10 r0)), (1, .int x1)] [] μ
def pt_X10_numeral_2 (l : Launch) (D : gD) (d : Nat) (q : Int32 → gMem → Prop) (Γ : gC) (r0 : Nat) (x1 : Int32) (μ : gMem) : Prop := G l D RX10 cX10_numeral 4 (some .int) d (pI q) Γ 46 [(0, .ref (D.2.2 10 r0)), (1, .int x1)] [] μ
set_option maxRecDepth 20000 in
set_option maxHeartbeats 4000000 in
theorem bl_X10_numeral_0 {l : Launch} {D : gD} {d : Nat} {q : Int32 → gMem → Prop} {Γ : gC} {r0 : Nat} {x1 : Int32} {x2 : Int32} {μ : gMem} (hr0 : r0 < 1) (h : (((μ.1 10 r0 24) = 0) → (((μ.1 10 r0 22) = (2 : Int32)) → (((μ.1 10 r0 23) < x1) → pt_X10_numeral_1 l D d q Γ r0 x1 μ) ∧ ((¬ (μ.1 10 r0 23) < x1) → (((μ.1 10 r0 23) ≤ x2) → pt_X10_numeral_2 l D d q Γ r0 x1 μ) ∧ ((¬ (μ.1 10 r0 23) ≤ x2) → pt_X10_numeral_1 l D d q Γ r0 x1 μ))) ∧ ((¬ (μ.1 10 r0 22) = (2 : Int32)) → ∃ (d_5 : Nat) (q_6 : gMem → Prop), d_5 < d ∧ Ctr l D d_5 yX10_wrong cX10_wrong 2 none [.ref (D.2.2 10 r0), .int (1 : Int32)] μ (pV q_6) ∧ ∀ (μ_9 : gMem), q_6 μ_9 → pt_X10_numeral_2 l D d q Γ r0 x1 μ_9)) ∧ ((¬ (μ.1 10 r0 24) = 0) → q x1 μ)) : pt_X10_numeral_0 l D d q Γ r0 x1 x2 μ := by
  unfold pt_X10_numeral_0
  refine g_aload_n dX10_numeral_0 rfl ?_
  refine g_gfI fi_10_199 hr0 dX10_numeral_1 ?_
  refine g_if_eq (tgt := 9) dX10_numeral_4 (by decide) (fun c_1 => ?_) (fun c_1 => ?_)
  · have h := h.1 c_1
    refine g_aload_n dX10_numeral_9 rfl ?_
    refine g_gfI fi_10_164 hr0 dX10_numeral_10 ?_
    refine g_iconst (2 : Int32) dX10_numeral_13 rfl ?_
    refine g_icmp_eq (tgt := 25) dX10_numeral_14 (by decide) (fun c_2 => ?_) (fun c_2 => ?_)
    · have h := h.1 c_2
      refine g_aload_n dX10_numeral_25 rfl ?_
      refine g_gfI fi_10_174 hr0 dX10_numeral_26 ?_
      refine g_iload_n dX10_numeral_29 rfl ?_
      refine g_icmp_lt (tgt := 41) dX10_numeral_30 (by decide) (fun c_3 => ?_) (fun c_3 => ?_)
      · have h := h.1 c_3
        exact g_sub [0, 1] rfl h
      · have h := h.2 c_3
        refine g_aload_n dX10_numeral_33 rfl ?_
        refine g_gfI fi_10_174 hr0 dX10_numeral_34 ?_
        refine g_iload_n dX10_numeral_37 rfl ?_
        refine g_icmp_le (tgt := 46) dX10_numeral_38 (by decide) (fun c_4 => ?_) (fun c_4 => ?_)
        · have h := h.1 c_4
          exact g_sub [0, 1] rfl h
        · have h := h.2 c_4
          exact g_sub [0, 1] rfl h
    · have h := h.2 c_2
      refine g_aload_n dX10_numeral_17 rfl ?_
      refine g_iconst (1 : Int32) dX10_numeral_18 rfl ?_
      obtain ⟨d_5, q_6, hd_7, hc_8, h⟩ := h
      refine g_cV ca_X10_208 ob_10 hc_8 hd_7 (by decide) hr0 rfl rfl (by first | exact Nat.le_of_ble_eq_true rfl | decide) dX10_numeral_19 (kV (fun μ_9 hq_11 => ?_))
      have h := h μ_9 hq_11
      refine g_goto (tgt := 46) dX10_numeral_22 (by decide) ?_
      exact g_sub [0, 1] rfl h
  · have h := h.2 c_1
    refine g_iload_n dX10_numeral_7 rfl ?_
    exact g_iret dX10_numeral_8 rfl rfl ⟨_, rfl, h⟩
set_option maxRecDepth 20000 in
set_option maxHeartbeats 4000000 in
theorem bl_X10_numeral_1 {l : Launch} {D : gD} {d : Nat} {q : Int32 → gMem → Prop} {Γ : gC} {r0 : Nat} {x1 : Int32} {μ : gMem} (hr0 : r0 < 1) (h : ∃ (d_1 : Nat) (q_2 : gMem → Prop), d_1 < d ∧ Ctr l D d_1 yX10_wrong cX10_wrong 2 none [.ref (D.2.2 10 r0), .int (2 : Int32)] μ (pV q_2) ∧ ∀ (μ_5 : gMem), q_2 μ_5 → pt_X10_numeral_2 l D d q Γ r0 x1 μ_5) : pt_X10_numeral_1 l D d q Γ r0 x1 μ := by
  unfold pt_X10_numeral_1
  refine g_aload_n dX10_numeral_41 rfl ?_
  refine g_iconst (2 : Int32) dX10_numeral_42 rfl ?_
  obtain ⟨d_1, q_2, hd_3, hc_4, h⟩ := h
  refine g_cV ca_X10_208 ob_10 hc_4 hd_3 (by decide) hr0 rfl rfl (by first | exact Nat.le_of_ble_eq_true rfl | decide) dX10_numeral_43 (kV (fun μ_5 hq_7 => ?_))
  have h := h μ_5 hq_7
  exact g_sub [0, 1] rfl h
set_option maxRecDepth 20000 in
set_option maxHeartbeats 4000000 in
theorem bl_X10_numeral_2 {l : Launch} {D : gD} {d : Nat} {q : Int32 → gMem → Prop} {Γ : gC} {r0 : Nat} {x1 : Int32} {μ : gMem} (hr0 : r0 < 1) (h : (((μ.1 10 r0 24) = 0) → ∀ x3_2 : Int32, x3_2 = μ.1 10 r0 23 → ∃ (d_3 : Nat) (q_4 : gMem → Prop), d_3 < d ∧ Ctr l D d_3 yX10_token cX10_token 2 none [.ref (D.2.2 10 r0)] μ (pV q_4) ∧ ∀ (μ_7 : gMem), q_4 μ_7 → q x3_2 μ_7) ∧ ((¬ (μ.1 10 r0 24) = 0) → q x1 μ)) : pt_X10_numeral_2 l D d q Γ r0 x1 μ := by
  unfold pt_X10_numeral_2
  refine g_aload_n dX10_numeral_46 rfl ?_
  refine g_gfI fi_10_199 hr0 dX10_numeral_47 ?_
  refine g_if_eq (tgt := 55) dX10_numeral_50 (by decide) (fun c_1 => ?_) (fun c_1 => ?_)
  · have h := h.1 c_1
    refine g_aload_n dX10_numeral_55 rfl ?_
    refine g_gfI fi_10_174 hr0 dX10_numeral_56 ?_
    refine g_istore_n dX10_numeral_59 (by decide) (fun x3_2 ex3_2 => g_sub (lv' := [(0, .ref (D.2.2 10 r0)), (3, .int x3_2)]) [1, 0] rfl ?_)
    have h := h x3_2 ex3_2
    refine g_aload_n dX10_numeral_60 rfl ?_
    obtain ⟨d_3, q_4, hd_5, hc_6, h⟩ := h
    refine g_cV ca_X10_205 ob_10 hc_6 hd_5 (by decide) hr0 rfl rfl (by first | exact Nat.le_of_ble_eq_true rfl | decide) dX10_numeral_61 (kV (fun μ_7 hq_9 => ?_))
    have h := h μ_7 hq_9
    refine g_iload_n dX10_numeral_64 rfl ?_
    exact g_iret dX10_numeral_65 rfl rfl ⟨_, rfl, h⟩
  · have h := h.2 c_1
    refine g_iload_n dX10_numeral_53 rfl ?_
    exact g_iret dX10_numeral_54 rfl rfl ⟨_, rfl, h⟩
theorem en_X10_numeral {l : Launch} {D : gD} {d : Nat} {q : Int32 → gMem → Prop} {r0 : Nat} {x1 : Int32} {x2 : Int32} {μ : gMem} (h : ∀ Γ : gC, pt_X10_numeral_0 l D d q Γ r0 x1 x2 μ) : Ctr l D d yX10_numeral cX10_numeral 4 (some .int) [.ref (D.2.2 10 r0), .int x1, .int x2] μ (pI q) :=
  Ctr_of rfl (by decide) (Nat.le_of_ble_eq_true rfl) (fun Γ => g_sub [0, 1, 2] rfl (h Γ))
def pt_X10_found_0 (l : Launch) (D : gD) (d : Nat) (q : Int32 → gMem → Prop) (Γ : gC) (k0 : Nat) (i0 : Nat) (x1 : Int32) (x2 : Int32) (x3 : Int32) (μ : gMem) : Prop := G l D RX10 cX10_found 5 (some .int) d (pI q) Γ 0 [(0, .ref (D.2.2 k0 i0)), (1, .int x1), (2, .int x2), (3, .int x3)] [] μ
def pt_X10_found_1 (l : Launch) (D : gD) (d : Nat) (q : Int32 → gMem → Prop) (Γ : gC) (k0 : Nat) (i0 : Nat) (x1 : Int32) (x2 : Int32) (x3 : Int32) (x4 : Int32) (μ : gMem) : Prop := G l D RX10 cX10_found 5 (some .int) d (pI q) Γ 3 [(0, .ref (D.2.2 k0 i0)), (1, .int x1), (2, .int x2), (3, .int x3), (4, .int x4)] [] μ
set_option maxRecDepth 20000 in
set_option maxHeartbeats 4000000 in
theorem bl_X10_found_0 {l : Launch} {D : gD} {d : Nat} {q : Int32 → gMem → Prop} {Γ : gC} {k0 : Nat} {i0 : Nat} {x1 : Int32} {x2 : Int32} {x3 : Int32} {μ : gMem} (hk0 : gsh k0 = (1, (gsh k0).2.1, 0)) (hi0 : i0 < gkn k0) (h : ∀ x4_1 : Int32, x4_1 = (0 : Int32) → pt_X10_found_1 l D d q Γ k0 i0 x1 x2 x3 x4_1 μ) : pt_X10_found_0 l D d q Γ k0 i0 x1 x2 x3 μ := by
  unfold pt_X10_found_0
  refine g_iconst (0 : Int32) dX10_found_0 rfl ?_
  refine g_istore dX10_found_1 (by decide) (fun x4_1 ex4_1 => g_sub (lv' := [(0, .ref (D.2.2 k0 i0)), (1, .int x1), (2, .int x2), (3, .int x3), (4, .int x4_1)]) [1, 2, 3, 4, 0] rfl ?_)
  have h := h x4_1 ex4_1
  exact g_sub [0, 1, 2, 3, 4] rfl h
set_option maxRecDepth 20000 in
set_option maxHeartbeats 4000000 in
theorem bl_X10_found_1 {l : Launch} {D : gD} {d : Nat} {q : Int32 → gMem → Prop} {Γ : gC} {k0 : Nat} {i0 : Nat} {x1 : Int32} {x2 : Int32} {x3 : Int32} {x4 : Int32} {μ : gMem} (hk0 : gsh k0 = (1, (gsh k0).2.1, 0)) (hi0 : i0 < gkn k0) (h : ((x2 ≤ x4) → q (-1 : Int32) μ) ∧ ((¬ x2 ≤ x4) → ∃ j_2 : Nat, j_2 < (gsh k0).2.1 ∧ (gsh k0).2.1 < 2 ^ 31 ∧ x1 + x4 = nI j_2 ∧ (((¬ (μ.1 k0 i0 j_2) = x3) → ∀ x4_5 : Int32, x4_5 = x4 + (1 : Int32) → pt_X10_found_1 l D d q Γ k0 i0 x1 x2 x3 x4_5 μ) ∧ (((μ.1 k0 i0 j_2) = x3) → q x4 μ)))) : pt_X10_found_1 l D d q Γ k0 i0 x1 x2 x3 x4 μ := by
  unfold pt_X10_found_1
  refine g_iload dX10_found_3 rfl ?_
  refine g_iload_n dX10_found_5 rfl ?_
  refine g_icmp_ge (tgt := 28) dX10_found_6 (by decide) (fun c_1 => ?_) (fun c_1 => ?_)
  · have h := h.1 c_1
    refine g_iconst (-1 : Int32) dX10_found_28 rfl ?_
    exact g_iret dX10_found_29 rfl rfl ⟨_, rfl, h⟩
  · have h := h.2 c_1
    refine g_aload_n dX10_found_9 rfl ?_
    refine g_iload_n dX10_found_10 rfl ?_
    refine g_iload dX10_found_11 rfl ?_
    refine g_iadd dX10_found_13 ?_
    obtain ⟨j_2, hj_2, hn_3, ej_2, h⟩ := h
    refine g_iald j_2 hi0 hk0 hj_2 hn_3 ej_2 dX10_found_14 ?_
    refine g_iload_n dX10_found_15 rfl ?_
    refine g_icmp_ne (tgt := 22) dX10_found_16 (by decide) (fun c_4 => ?_) (fun c_4 => ?_)
    · have h := h.1 c_4
      refine g_iinc dX10_found_22 rfl (by decide) (fun x4_5 ex4_5 => g_sub (lv' := [(0, .ref (D.2.2 k0 i0)), (1, .int x1), (2, .int x2), (3, .int x3), (4, .int x4_5)]) [1, 2, 3, 4, 0] rfl ?_)
      have h := h x4_5 ex4_5
      refine g_goto (tgt := 3) dX10_found_25 (by decide) ?_
      exact g_sub [0, 1, 2, 3, 4] rfl h
    · have h := h.2 c_4
      refine g_iload dX10_found_19 rfl ?_
      exact g_iret dX10_found_21 rfl rfl ⟨_, rfl, h⟩
theorem en_X10_found {l : Launch} {D : gD} {d : Nat} {q : Int32 → gMem → Prop} {k0 : Nat} {i0 : Nat} {x1 : Int32} {x2 : Int32} {x3 : Int32} {μ : gMem} (h : ∀ Γ : gC, pt_X10_found_0 l D d q Γ k0 i0 x1 x2 x3 μ) : Ctr l D d yX10_found cX10_found 5 (some .int) [.ref (D.2.2 k0 i0), .int x1, .int x2, .int x3] μ (pI q) :=
  Ctr_of rfl (by decide) (Nat.le_of_ble_eq_true rfl) (fun Γ => g_sub [0, 1, 2, 3] rfl (h Γ))
def pt_X10_fresh_0 (l : Launch) (D : gD) (d : Nat) (q : Int32 → gMem → Prop) (Γ : gC) (r0 : Nat) (k1 : Nat) (i1 : Nat) (x2 : Int32) (x3 : Int32) (μ : gMem) : Prop := G l D RX10 cX10_fresh 5 (some .int) d (pI q) Γ 0 [(0, .ref (D.2.2 10 r0)), (1, .ref (D.2.2 k1 i1)), (2, .int x2), (3, .int x3)] [] μ
def pt_X10_fresh_1 (l : Launch) (D : gD) (d : Nat) (q : Int32 → gMem → Prop) (Γ : gC) (r0 : Nat) (μ : gMem) : Prop := G l D RX10 cX10_fresh 5 (some .int) d (pI q) Γ 44 [(0, .ref (D.2.2 10 r0))] [] μ
set_option maxRecDepth 20000 in
set_option maxHeartbeats 4000000 in
theorem bl_X10_fresh_0 {l : Launch} {D : gD} {d : Nat} {q : Int32 → gMem → Prop} {Γ : gC} {r0 : Nat} {k1 : Nat} {i1 : Nat} {x2 : Int32} {x3 : Int32} {μ : gMem} (hr0 : r0 < 1) (hk1 : gsh k1 = (1, (gsh k1).2.1, 0)) (hi1 : i1 < gkn k1) (h : (((μ.1 10 r0 24) = 0) → (((μ.1 10 r0 22) = (1 : Int32)) → ∃ (d_3 : Nat) (q_4 : Int32 → gMem → Prop), d_3 < d ∧ Ctr l D d_3 yX10_found cX10_found 5 (some .int) [.ref (D.2.2 k1 i1), .int x2, .int x3, .int (μ.1 10 r0 23)] μ (pI q_4) ∧ ∀ (v_8 : Int32) (μ_7 : gMem), q_4 v_8 μ_7 → ((v_8 = (-1 : Int32)) → pt_X10_fresh_1 l D d q Γ r0 μ_7) ∧ ((¬ v_8 = (-1 : Int32)) → ∃ (d_11 : Nat) (q_12 : gMem → Prop), d_11 < d ∧ Ctr l D d_11 yX10_wrong cX10_wrong 2 none [.ref (D.2.2 10 r0), .int (3 : Int32)] μ_7 (pV q_12) ∧ ∀ (μ_15 : gMem), q_12 μ_15 → pt_X10_fresh_1 l D d q Γ r0 μ_15)) ∧ ((¬ (μ.1 10 r0 22) = (1 : Int32)) → ∃ (d_18 : Nat) (q_19 : gMem → Prop), d_18 < d ∧ Ctr l D d_18 yX10_wrong cX10_wrong 2 none [.ref (D.2.2 10 r0), .int (1 : Int32)] μ (pV q_19) ∧ ∀ (μ_22 : gMem), q_19 μ_22 → pt_X10_fresh_1 l D d q Γ r0 μ_22)) ∧ ((¬ (μ.1 10 r0 24) = 0) → q (0 : Int32) μ)) : pt_X10_fresh_0 l D d q Γ r0 k1 i1 x2 x3 μ := by
  unfold pt_X10_fresh_0
  refine g_aload_n dX10_fresh_0 rfl ?_
  refine g_gfI fi_10_199 hr0 dX10_fresh_1 ?_
  refine g_if_eq (tgt := 9) dX10_fresh_4 (by decide) (fun c_1 => ?_) (fun c_1 => ?_)
  · have h := h.1 c_1
    refine g_aload_n dX10_fresh_9 rfl ?_
    refine g_gfI fi_10_164 hr0 dX10_fresh_10 ?_
    refine g_iconst (1 : Int32) dX10_fresh_13 rfl ?_
    refine g_icmp_eq (tgt := 25) dX10_fresh_14 (by decide) (fun c_2 => ?_) (fun c_2 => ?_)
    · have h := h.1 c_2
      refine g_aload_n dX10_fresh_25 rfl ?_
      refine g_iload_n dX10_fresh_26 rfl ?_
      refine g_iload_n dX10_fresh_27 rfl ?_
      refine g_aload_n dX10_fresh_28 rfl ?_
      refine g_gfI fi_10_174 hr0 dX10_fresh_29 ?_
      obtain ⟨d_3, q_4, hd_5, hc_6, h⟩ := h
      refine g_callS ca_X10_211 hc_6 hd_5 (by decide) rfl rfl (by first | exact Nat.le_of_ble_eq_true rfl | decide) dX10_fresh_32 (kI (fun v_8 μ_7 hq_9 => ?_))
      have h := h v_8 μ_7 hq_9
      refine g_iconst (-1 : Int32) dX10_fresh_35 rfl ?_
      refine g_icmp_eq (tgt := 44) dX10_fresh_36 (by decide) (fun c_10 => ?_) (fun c_10 => ?_)
      · have h := h.1 c_10
        exact g_sub [0] rfl h
      · have h := h.2 c_10
        refine g_aload_n dX10_fresh_39 rfl ?_
        refine g_iconst (3 : Int32) dX10_fresh_40 rfl ?_
        obtain ⟨d_11, q_12, hd_13, hc_14, h⟩ := h
        refine g_cV ca_X10_208 ob_10 hc_14 hd_13 (by decide) hr0 rfl rfl (by first | exact Nat.le_of_ble_eq_true rfl | decide) dX10_fresh_41 (kV (fun μ_15 hq_17 => ?_))
        have h := h μ_15 hq_17
        exact g_sub [0] rfl h
    · have h := h.2 c_2
      refine g_aload_n dX10_fresh_17 rfl ?_
      refine g_iconst (1 : Int32) dX10_fresh_18 rfl ?_
      obtain ⟨d_18, q_19, hd_20, hc_21, h⟩ := h
      refine g_cV ca_X10_208 ob_10 hc_21 hd_20 (by decide) hr0 rfl rfl (by first | exact Nat.le_of_ble_eq_true rfl | decide) dX10_fresh_19 (kV (fun μ_22 hq_24 => ?_))
      have h := h μ_22 hq_24
      refine g_goto (tgt := 44) dX10_fresh_22 (by decide) ?_
      exact g_sub [0] rfl h
  · have h := h.2 c_1
    refine g_iconst (0 : Int32) dX10_fresh_7 rfl ?_
    exact g_iret dX10_fresh_8 rfl rfl ⟨_, rfl, h⟩
set_option maxRecDepth 20000 in
set_option maxHeartbeats 4000000 in
theorem bl_X10_fresh_1 {l : Launch} {D : gD} {d : Nat} {q : Int32 → gMem → Prop} {Γ : gC} {r0 : Nat} {μ : gMem} (hr0 : r0 < 1) (h : (((μ.1 10 r0 24) = 0) → ∀ x4_2 : Int32, x4_2 = μ.1 10 r0 23 → ∃ (d_3 : Nat) (q_4 : gMem → Prop), d_3 < d ∧ Ctr l D d_3 yX10_token cX10_token 2 none [.ref (D.2.2 10 r0)] μ (pV q_4) ∧ ∀ (μ_7 : gMem), q_4 μ_7 → q x4_2 μ_7) ∧ ((¬ (μ.1 10 r0 24) = 0) → q (0 : Int32) μ)) : pt_X10_fresh_1 l D d q Γ r0 μ := by
  unfold pt_X10_fresh_1
  refine g_aload_n dX10_fresh_44 rfl ?_
  refine g_gfI fi_10_199 hr0 dX10_fresh_45 ?_
  refine g_if_eq (tgt := 53) dX10_fresh_48 (by decide) (fun c_1 => ?_) (fun c_1 => ?_)
  · have h := h.1 c_1
    refine g_aload_n dX10_fresh_53 rfl ?_
    refine g_gfI fi_10_174 hr0 dX10_fresh_54 ?_
    refine g_istore dX10_fresh_57 (by decide) (fun x4_2 ex4_2 => g_sub (lv' := [(0, .ref (D.2.2 10 r0)), (4, .int x4_2)]) [1, 0] rfl ?_)
    have h := h x4_2 ex4_2
    refine g_aload_n dX10_fresh_59 rfl ?_
    obtain ⟨d_3, q_4, hd_5, hc_6, h⟩ := h
    refine g_cV ca_X10_205 ob_10 hc_6 hd_5 (by decide) hr0 rfl rfl (by first | exact Nat.le_of_ble_eq_true rfl | decide) dX10_fresh_60 (kV (fun μ_7 hq_9 => ?_))
    have h := h μ_7 hq_9
    refine g_iload dX10_fresh_63 rfl ?_
    exact g_iret dX10_fresh_65 rfl rfl ⟨_, rfl, h⟩
  · have h := h.2 c_1
    refine g_iconst (0 : Int32) dX10_fresh_51 rfl ?_
    exact g_iret dX10_fresh_52 rfl rfl ⟨_, rfl, h⟩
theorem en_X10_fresh {l : Launch} {D : gD} {d : Nat} {q : Int32 → gMem → Prop} {r0 : Nat} {k1 : Nat} {i1 : Nat} {x2 : Int32} {x3 : Int32} {μ : gMem} (h : ∀ Γ : gC, pt_X10_fresh_0 l D d q Γ r0 k1 i1 x2 x3 μ) : Ctr l D d yX10_fresh cX10_fresh 5 (some .int) [.ref (D.2.2 10 r0), .ref (D.2.2 k1 i1), .int x2, .int x3] μ (pI q) :=
  Ctr_of rfl (by decide) (Nat.le_of_ble_eq_true rfl) (fun Γ => g_sub [0, 1, 2, 3] rfl (h Γ))
def pt_X10_fresher_0 (l : Launch) (D : gD) (d : Nat) (q : Int32 → gMem → Prop) (Γ : gC) (r0 : Nat) (x1 : Int32) (μ : gMem) : Prop := G l D RX10 cX10_fresher 2 (some .int) d (pI q) Γ 0 [(0, .ref (D.2.2 10 r0)), (1, .int x1)] [] μ
set_option maxRecDepth 20000 in
set_option maxHeartbeats 4000000 in
theorem bl_X10_fresher_0 {l : Launch} {D : gD} {d : Nat} {q : Int32 → gMem → Prop} {Γ : gC} {r0 : Nat} {x1 : Int32} {μ : gMem} (hr0 : r0 < 1) (h : ∃ j_1 : Nat, j_1 < 20 ∧ (10 : Int32) + x1 = nI j_1 ∧ (q (μ.1 707 r0 j_1) μ)) : pt_X10_fresher_0 l D d q Γ r0 x1 μ := by
  unfold pt_X10_fresher_0
  refine g_aload_n dX10_fresher_0 rfl ?_
  refine g_gfR fl_10_13 rfl hr0 dX10_fresher_1 ?_
  refine g_bipush (10 : Int32) dX10_fresher_4 rfl ?_
  refine g_iload_n dX10_fresher_6 rfl ?_
  refine g_iadd dX10_fresher_7 ?_
  obtain ⟨j_1, hj_1, ej_1, h⟩ := h
  refine g_iald j_1 hr0 rfl hj_1 (by decide) ej_1 dX10_fresher_8 ?_
  exact g_iret dX10_fresher_9 rfl rfl ⟨_, rfl, h⟩
theorem en_X10_fresher {l : Launch} {D : gD} {d : Nat} {q : Int32 → gMem → Prop} {r0 : Nat} {x1 : Int32} {μ : gMem} (h : ∀ Γ : gC, pt_X10_fresher_0 l D d q Γ r0 x1 μ) : Ctr l D d yX10_fresher cX10_fresher 2 (some .int) [.ref (D.2.2 10 r0), .int x1] μ (pI q) :=
  Ctr_of rfl (by decide) (Nat.le_of_ble_eq_true rfl) (fun Γ => g_sub [0, 1] rfl (h Γ))
def pt_X10_reads_0 (l : Launch) (D : gD) (d : Nat) (q : gMem → Prop) (Γ : gC) (r0 : Nat) (x1 : Int32) (x2 : Int32) (μ : gMem) : Prop := G l D RX10 cX10_reads 3 none d (pV q) Γ 0 [(0, .ref (D.2.2 10 r0)), (1, .int x1), (2, .int x2)] [] μ
set_option maxRecDepth 20000 in
set_option maxHeartbeats 4000000 in
theorem bl_X10_reads_0 {l : Launch} {D : gD} {d : Nat} {q : gMem → Prop} {Γ : gC} {r0 : Nat} {x1 : Int32} {x2 : Int32} {μ : gMem} (hr0 : r0 < 1) (h : ∃ j_1 : Nat, j_1 < 20 ∧ (10 : Int32) + x1 = nI j_1 ∧ (∀ μ_2 : gMem, μ_2 = gsI μ 707 r0 j_1 x2 → q μ_2)) : pt_X10_reads_0 l D d q Γ r0 x1 x2 μ := by
  unfold pt_X10_reads_0
  refine g_aload_n dX10_reads_0 rfl ?_
  refine g_gfR fl_10_13 rfl hr0 dX10_reads_1 ?_
  refine g_bipush (10 : Int32) dX10_reads_4 rfl ?_
  refine g_iload_n dX10_reads_6 rfl ?_
  refine g_iadd dX10_reads_7 ?_
  refine g_iload_n dX10_reads_8 rfl ?_
  obtain ⟨j_1, hj_1, ej_1, h⟩ := h
  refine g_iast j_1 hr0 rfl hj_1 (by decide) ej_1 dX10_reads_9 ?_
  obtain ⟨μ_2, eμ_2⟩ : ∃ z : gMem, z = gsI μ 707 r0 j_1 x2 := ⟨_, rfl⟩
  have h := h μ_2 eμ_2
  refine g_mem eμ_2.symm ?_
  exact g_vret dX10_reads_10 rfl ⟨rfl, h⟩
theorem en_X10_reads {l : Launch} {D : gD} {d : Nat} {q : gMem → Prop} {r0 : Nat} {x1 : Int32} {x2 : Int32} {μ : gMem} (h : ∀ Γ : gC, pt_X10_reads_0 l D d q Γ r0 x1 x2 μ) : Ctr l D d yX10_reads cX10_reads 3 none [.ref (D.2.2 10 r0), .int x1, .int x2] μ (pV q) :=
  Ctr_of rfl (by decide) (Nat.le_of_ble_eq_true rfl) (fun Γ => g_sub [0, 1, 2] rfl (h Γ))
def pt_X10_toldAhead_0 (l : Launch) (D : gD) (d : Nat) (q : Int32 → gMem → Prop) (Γ : gC) (r0 : Nat) (k1 : Nat) (i1 : Nat) (x2 : Int32) (x3 : Int32) (μ : gMem) : Prop := G l D RX10 cX10_toldAhead 4 (some .int) d (pI q) Γ 0 [(0, .ref (D.2.2 10 r0)), (1, .ref (D.2.2 k1 i1)), (2, .int x2), (3, .int x3)] [] μ
def pt_X10_toldAhead_1 (l : Launch) (D : gD) (d : Nat) (q : Int32 → gMem → Prop) (Γ : gC) (r0 : Nat) (k1 : Nat) (i1 : Nat) (x2 : Int32) (x3 : Int32) (μ : gMem) : Prop := G l D RX10 cX10_toldAhead 4 (some .int) d (pI q) Γ 44 [(0, .ref (D.2.2 10 r0)), (1, .ref (D.2.2 k1 i1)), (2, .int x2), (3, .int x3)] [] μ
set_option maxRecDepth 20000 in
set_option maxHeartbeats 4000000 in
theorem bl_X10_toldAhead_0 {l : Launch} {D : gD} {d : Nat} {q : Int32 → gMem → Prop} {Γ : gC} {r0 : Nat} {k1 : Nat} {i1 : Nat} {x2 : Int32} {x3 : Int32} {μ : gMem} (hr0 : r0 < 1) (hk1 : gsh k1 = (1, (gsh k1).2.1, 0)) (hi1 : i1 < gkn k1) (h : (((μ.1 10 r0 24) = 0) → (((μ.1 10 r0 22) = (1 : Int32)) → ∃ (d_3 : Nat) (q_4 : Int32 → gMem → Prop), d_3 < d ∧ Ctr l D d_3 yX10_found cX10_found 5 (some .int) [.ref (D.2.2 k1 i1), .int x2, .int x3, .int (μ.1 10 r0 23)] μ (pI q_4) ∧ ∀ (v_8 : Int32) (μ_7 : gMem), q_4 v_8 μ_7 → ((¬ v_8 = (-1 : Int32)) → pt_X10_toldAhead_1 l D d q Γ r0 k1 i1 x2 x3 μ_7) ∧ ((v_8 = (-1 : Int32)) → ∃ (d_11 : Nat) (q_12 : gMem → Prop), d_11 < d ∧ Ctr l D d_11 yX10_wrong cX10_wrong 2 none [.ref (D.2.2 10 r0), .int (4 : Int32)] μ_7 (pV q_12) ∧ ∀ (μ_15 : gMem), q_12 μ_15 → pt_X10_toldAhead_1 l D d q Γ r0 k1 i1 x2 x3 μ_15)) ∧ ((¬ (μ.1 10 r0 22) = (1 : Int32)) → ∃ (d_18 : Nat) (q_19 : gMem → Prop), d_18 < d ∧ Ctr l D d_18 yX10_wrong cX10_wrong 2 none [.ref (D.2.2 10 r0), .int (1 : Int32)] μ (pV q_19) ∧ ∀ (μ_22 : gMem), q_19 μ_22 → pt_X10_toldAhead_1 l D d q Γ r0 k1 i1 x2 x3 μ_22)) ∧ ((¬ (μ.1 10 r0 24) = 0) → q (0 : Int32) μ)) : pt_X10_toldAhead_0 l D d q Γ r0 k1 i1 x2 x3 μ := by
  unfold pt_X10_toldAhead_0
  refine g_aload_n dX10_toldAhead_0 rfl ?_
  refine g_gfI fi_10_199 hr0 dX10_toldAhead_1 ?_
  refine g_if_eq (tgt := 9) dX10_toldAhead_4 (by decide) (fun c_1 => ?_) (fun c_1 => ?_)
  · have h := h.1 c_1
    refine g_aload_n dX10_toldAhead_9 rfl ?_
    refine g_gfI fi_10_164 hr0 dX10_toldAhead_10 ?_
    refine g_iconst (1 : Int32) dX10_toldAhead_13 rfl ?_
    refine g_icmp_eq (tgt := 25) dX10_toldAhead_14 (by decide) (fun c_2 => ?_) (fun c_2 => ?_)
    · have h := h.1 c_2
      refine g_aload_n dX10_toldAhead_25 rfl ?_
      refine g_iload_n dX10_toldAhead_26 rfl ?_
      refine g_iload_n dX10_toldAhead_27 rfl ?_
      refine g_aload_n dX10_toldAhead_28 rfl ?_
      refine g_gfI fi_10_174 hr0 dX10_toldAhead_29 ?_
      obtain ⟨d_3, q_4, hd_5, hc_6, h⟩ := h
      refine g_callS ca_X10_211 hc_6 hd_5 (by decide) rfl rfl (by first | exact Nat.le_of_ble_eq_true rfl | decide) dX10_toldAhead_32 (kI (fun v_8 μ_7 hq_9 => ?_))
      have h := h v_8 μ_7 hq_9
      refine g_iconst (-1 : Int32) dX10_toldAhead_35 rfl ?_
      refine g_icmp_ne (tgt := 44) dX10_toldAhead_36 (by decide) (fun c_10 => ?_) (fun c_10 => ?_)
      · have h := h.1 c_10
        exact g_sub [0, 1, 2, 3] rfl h
      · have h := h.2 c_10
        refine g_aload_n dX10_toldAhead_39 rfl ?_
        refine g_iconst (4 : Int32) dX10_toldAhead_40 rfl ?_
        obtain ⟨d_11, q_12, hd_13, hc_14, h⟩ := h
        refine g_cV ca_X10_208 ob_10 hc_14 hd_13 (by decide) hr0 rfl rfl (by first | exact Nat.le_of_ble_eq_true rfl | decide) dX10_toldAhead_41 (kV (fun μ_15 hq_17 => ?_))
        have h := h μ_15 hq_17
        exact g_sub [0, 1, 2, 3] rfl h
    · have h := h.2 c_2
      refine g_aload_n dX10_toldAhead_17 rfl ?_
      refine g_iconst (1 : Int32) dX10_toldAhead_18 rfl ?_
      obtain ⟨d_18, q_19, hd_20, hc_21, h⟩ := h
      refine g_cV ca_X10_208 ob_10 hc_21 hd_20 (by decide) hr0 rfl rfl (by first | exact Nat.le_of_ble_eq_true rfl | decide) dX10_toldAhead_19 (kV (fun μ_22 hq_24 => ?_))
      have h := h μ_22 hq_24
      refine g_goto (tgt := 44) dX10_toldAhead_22 (by decide) ?_
      exact g_sub [0, 1, 2, 3] rfl h
  · have h := h.2 c_1
    refine g_iconst (0 : Int32) dX10_toldAhead_7 rfl ?_
    exact g_iret dX10_toldAhead_8 rfl rfl ⟨_, rfl, h⟩
set_option maxRecDepth 20000 in
set_option maxHeartbeats 4000000 in
theorem bl_X10_toldAhead_1 {l : Launch} {D : gD} {d : Nat} {q : Int32 → gMem → Prop} {Γ : gC} {r0 : Nat} {k1 : Nat} {i1 : Nat} {x2 : Int32} {x3 : Int32} {μ : gMem} (hr0 : r0 < 1) (hk1 : gsh k1 = (1, (gsh k1).2.1, 0)) (hi1 : i1 < gkn k1) (h : (((μ.1 10 r0 24) = 0) → ∃ (d_2 : Nat) (q_3 : Int32 → gMem → Prop), d_2 < d ∧ Ctr l D d_2 yX10_found cX10_found 5 (some .int) [.ref (D.2.2 k1 i1), .int x2, .int x3, .int (μ.1 10 r0 23)] μ (pI q_3) ∧ ∀ (v_7 : Int32) (μ_6 : gMem), q_3 v_7 μ_6 → q v_7 μ_6) ∧ ((¬ (μ.1 10 r0 24) = 0) → q (0 : Int32) μ)) : pt_X10_toldAhead_1 l D d q Γ r0 k1 i1 x2 x3 μ := by
  unfold pt_X10_toldAhead_1
  refine g_aload_n dX10_toldAhead_44 rfl ?_
  refine g_gfI fi_10_199 hr0 dX10_toldAhead_45 ?_
  refine g_if_eq (tgt := 55) dX10_toldAhead_48 (by decide) (fun c_1 => ?_) (fun c_1 => ?_)
  · have h := h.1 c_1
    refine g_aload_n dX10_toldAhead_55 rfl ?_
    refine g_iload_n dX10_toldAhead_56 rfl ?_
    refine g_iload_n dX10_toldAhead_57 rfl ?_
    refine g_aload_n dX10_toldAhead_58 rfl ?_
    refine g_gfI fi_10_174 hr0 dX10_toldAhead_59 ?_
    obtain ⟨d_2, q_3, hd_4, hc_5, h⟩ := h
    refine g_callS ca_X10_211 hc_5 hd_4 (by decide) rfl rfl (by first | exact Nat.le_of_ble_eq_true rfl | decide) dX10_toldAhead_62 (kI (fun v_7 μ_6 hq_8 => ?_))
    have h := h v_7 μ_6 hq_8
    exact g_iret dX10_toldAhead_65 rfl rfl ⟨_, rfl, h⟩
  · have h := h.2 c_1
    refine g_iconst (0 : Int32) dX10_toldAhead_51 rfl ?_
    refine g_goto (tgt := 65) dX10_toldAhead_52 (by decide) ?_
    exact g_iret dX10_toldAhead_65 rfl rfl ⟨_, rfl, h⟩
theorem en_X10_toldAhead {l : Launch} {D : gD} {d : Nat} {q : Int32 → gMem → Prop} {r0 : Nat} {k1 : Nat} {i1 : Nat} {x2 : Int32} {x3 : Int32} {μ : gMem} (h : ∀ Γ : gC, pt_X10_toldAhead_0 l D d q Γ r0 k1 i1 x2 x3 μ) : Ctr l D d yX10_toldAhead cX10_toldAhead 4 (some .int) [.ref (D.2.2 10 r0), .ref (D.2.2 k1 i1), .int x2, .int x3] μ (pI q) :=
  Ctr_of rfl (by decide) (Nat.le_of_ble_eq_true rfl) (fun Γ => g_sub [0, 1, 2, 3] rfl (h Γ))
def pt_X10_isFull_0 (l : Launch) (D : gD) (d : Nat) (q : Int32 → gMem → Prop) (Γ : gC) (r0 : Nat) (x1 : Int32) (μ : gMem) : Prop := G l D RX10 cX10_isFull 2 (some .boolean) d (pI q) Γ 0 [(0, .ref (D.2.2 10 r0)), (1, .int x1)] [] μ
def pt_X10_isFull_1 (l : Launch) (D : gD) (d : Nat) (q : Int32 → gMem → Prop) (Γ : gC) (r0 : Nat) (x1 : Int32) (μ : gMem) : Prop := G l D RX10 cX10_isFull 2 (some .boolean) d (pI q) Γ 13 [(0, .ref (D.2.2 10 r0)), (1, .int x1)] [] μ
def pt_X10_isFull_2 (l : Launch) (D : gD) (d : Nat) (q : Int32 → gMem → Prop) (Γ : gC) (r0 : Nat) (x1 : Int32) (μ : gMem) : Prop := G l D RX10 cX10_isFull 2 (some .boolean) d (pI q) Γ 28 [(0, .ref (D.2.2 10 r0)), (1, .int x1)] [] μ
def pt_X10_isFull_3 (l : Launch) (D : gD) (d : Nat) (q : Int32 → gMem → Prop) (Γ : gC)  (μ : gMem) : Prop := G l D RX10 cX10_isFull 2 (some .boolean) d (pI q) Γ 43 [] [] μ
set_option maxRecDepth 20000 in
set_option maxHeartbeats 4000000 in
theorem bl_X10_isFull_0 {l : Launch} {D : gD} {d : Nat} {q : Int32 → gMem → Prop} {Γ : gC} {r0 : Nat} {x1 : Int32} {μ : gMem} (hr0 : r0 < 1) (h : ((¬ x1 = 0) → pt_X10_isFull_1 l D d q Γ r0 x1 μ) ∧ ((x1 = 0) → ∃ (d_2 : Nat) (q_3 : Int32 → gMem → Prop), d_2 < d ∧ Ctr l D d_2 yX10_fresher cX10_fresher 2 (some .int) [.ref (D.2.2 10 r0), .int (0 : Int32)] μ (pI q_3) ∧ ∀ (v_7 : Int32) (μ_6 : gMem), q_3 v_7 μ_6 → ((v_7 = (5 : Int32)) → pt_X10_isFull_3 l D d q Γ  μ_6) ∧ ((¬ v_7 = (5 : Int32)) → pt_X10_isFull_1 l D d q Γ r0 x1 μ_6))) : pt_X10_isFull_0 l D d q Γ r0 x1 μ := by
  unfold pt_X10_isFull_0
  refine g_iload_n dX10_isFull_0 rfl ?_
  refine g_if_ne (tgt := 13) dX10_isFull_1 (by decide) (fun c_1 => ?_) (fun c_1 => ?_)
  · have h := h.1 c_1
    exact g_sub [0, 1] rfl h
  · have h := h.2 c_1
    refine g_aload_n dX10_isFull_4 rfl ?_
    refine g_iconst (0 : Int32) dX10_isFull_5 rfl ?_
    obtain ⟨d_2, q_3, hd_4, hc_5, h⟩ := h
    refine g_cV ca_X10_215 ob_10 hc_5 hd_4 (by decide) hr0 rfl rfl (by first | exact Nat.le_of_ble_eq_true rfl | decide) dX10_isFull_6 (kI (fun v_7 μ_6 hq_8 => ?_))
    have h := h v_7 μ_6 hq_8
    refine g_iconst (5 : Int32) dX10_isFull_9 rfl ?_
    refine g_icmp_eq (tgt := 43) dX10_isFull_10 (by decide) (fun c_9 => ?_) (fun c_9 => ?_)
    · have h := h.1 c_9
      exact g_sub [] rfl h
    · have h := h.2 c_9
      exact g_sub [0, 1] rfl h
set_option maxRecDepth 20000 in
set_option maxHeartbeats 4000000 in
theorem bl_X10_isFull_1 {l : Launch} {D : gD} {d : Nat} {q : Int32 → gMem → Prop} {Γ : gC} {r0 : Nat} {x1 : Int32} {μ : gMem} (hr0 : r0 < 1) (h : ((¬ x1 = (1 : Int32)) → pt_X10_isFull_2 l D d q Γ r0 x1 μ) ∧ ((x1 = (1 : Int32)) → ∃ (d_2 : Nat) (q_3 : Int32 → gMem → Prop), d_2 < d ∧ Ctr l D d_2 yX10_fresher cX10_fresher 2 (some .int) [.ref (D.2.2 10 r0), .int (1 : Int32)] μ (pI q_3) ∧ ∀ (v_7 : Int32) (μ_6 : gMem), q_3 v_7 μ_6 → ((v_7 = (6 : Int32)) → pt_X10_isFull_3 l D d q Γ  μ_6) ∧ ((¬ v_7 = (6 : Int32)) → pt_X10_isFull_2 l D d q Γ r0 x1 μ_6))) : pt_X10_isFull_1 l D d q Γ r0 x1 μ := by
  unfold pt_X10_isFull_1
  refine g_iload_n dX10_isFull_13 rfl ?_
  refine g_iconst (1 : Int32) dX10_isFull_14 rfl ?_
  refine g_icmp_ne (tgt := 28) dX10_isFull_15 (by decide) (fun c_1 => ?_) (fun c_1 => ?_)
  · have h := h.1 c_1
    exact g_sub [0, 1] rfl h
  · have h := h.2 c_1
    refine g_aload_n dX10_isFull_18 rfl ?_
    refine g_iconst (1 : Int32) dX10_isFull_19 rfl ?_
    obtain ⟨d_2, q_3, hd_4, hc_5, h⟩ := h
    refine g_cV ca_X10_215 ob_10 hc_5 hd_4 (by decide) hr0 rfl rfl (by first | exact Nat.le_of_ble_eq_true rfl | decide) dX10_isFull_20 (kI (fun v_7 μ_6 hq_8 => ?_))
    have h := h v_7 μ_6 hq_8
    refine g_bipush (6 : Int32) dX10_isFull_23 rfl ?_
    refine g_icmp_eq (tgt := 43) dX10_isFull_25 (by decide) (fun c_9 => ?_) (fun c_9 => ?_)
    · have h := h.1 c_9
      exact g_sub [] rfl h
    · have h := h.2 c_9
      exact g_sub [0, 1] rfl h
set_option maxRecDepth 20000 in
set_option maxHeartbeats 4000000 in
theorem bl_X10_isFull_2 {l : Launch} {D : gD} {d : Nat} {q : Int32 → gMem → Prop} {Γ : gC} {r0 : Nat} {x1 : Int32} {μ : gMem} (hr0 : r0 < 1) (h : ((¬ x1 = (2 : Int32)) → q (0 : Int32) μ) ∧ ((x1 = (2 : Int32)) → ∃ (d_2 : Nat) (q_3 : Int32 → gMem → Prop), d_2 < d ∧ Ctr l D d_2 yX10_fresher cX10_fresher 2 (some .int) [.ref (D.2.2 10 r0), .int (2 : Int32)] μ (pI q_3) ∧ ∀ (v_7 : Int32) (μ_6 : gMem), q_3 v_7 μ_6 → ((¬ v_7 = (12 : Int32)) → q (0 : Int32) μ_6) ∧ ((v_7 = (12 : Int32)) → pt_X10_isFull_3 l D d q Γ  μ_6))) : pt_X10_isFull_2 l D d q Γ r0 x1 μ := by
  unfold pt_X10_isFull_2
  refine g_iload_n dX10_isFull_28 rfl ?_
  refine g_iconst (2 : Int32) dX10_isFull_29 rfl ?_
  refine g_icmp_ne (tgt := 47) dX10_isFull_30 (by decide) (fun c_1 => ?_) (fun c_1 => ?_)
  · have h := h.1 c_1
    refine g_iconst (0 : Int32) dX10_isFull_47 rfl ?_
    exact g_iret dX10_isFull_48 rfl rfl ⟨_, rfl, h⟩
  · have h := h.2 c_1
    refine g_aload_n dX10_isFull_33 rfl ?_
    refine g_iconst (2 : Int32) dX10_isFull_34 rfl ?_
    obtain ⟨d_2, q_3, hd_4, hc_5, h⟩ := h
    refine g_cV ca_X10_215 ob_10 hc_5 hd_4 (by decide) hr0 rfl rfl (by first | exact Nat.le_of_ble_eq_true rfl | decide) dX10_isFull_35 (kI (fun v_7 μ_6 hq_8 => ?_))
    have h := h v_7 μ_6 hq_8
    refine g_bipush (12 : Int32) dX10_isFull_38 rfl ?_
    refine g_icmp_ne (tgt := 47) dX10_isFull_40 (by decide) (fun c_9 => ?_) (fun c_9 => ?_)
    · have h := h.1 c_9
      refine g_iconst (0 : Int32) dX10_isFull_47 rfl ?_
      exact g_iret dX10_isFull_48 rfl rfl ⟨_, rfl, h⟩
    · have h := h.2 c_9
      exact g_sub [] rfl h
set_option maxRecDepth 20000 in
set_option maxHeartbeats 4000000 in
theorem bl_X10_isFull_3 {l : Launch} {D : gD} {d : Nat} {q : Int32 → gMem → Prop} {Γ : gC}  {μ : gMem}  (h : q (1 : Int32) μ) : pt_X10_isFull_3 l D d q Γ  μ := by
  unfold pt_X10_isFull_3
  refine g_iconst (1 : Int32) dX10_isFull_43 rfl ?_
  refine g_goto (tgt := 48) dX10_isFull_44 (by decide) ?_
  exact g_iret dX10_isFull_48 rfl rfl ⟨_, rfl, h⟩
theorem en_X10_isFull {l : Launch} {D : gD} {d : Nat} {q : Int32 → gMem → Prop} {r0 : Nat} {x1 : Int32} {μ : gMem} (h : ∀ Γ : gC, pt_X10_isFull_0 l D d q Γ r0 x1 μ) : Ctr l D d yX10_isFull cX10_isFull 2 (some .boolean) [.ref (D.2.2 10 r0), .int x1] μ (pI q) :=
  Ctr_of rfl (by decide) (Nat.le_of_ble_eq_true rfl) (fun Γ => g_sub [0, 1] rfl (h Γ))
def pt_X10_line_0 (l : Launch) (D : gD) (d : Nat) (q : gMem → Prop) (Γ : gC) (r0 : Nat) (μ : gMem) : Prop := G l D RX10 cX10_line 4 none d (pV q) Γ 0 [(0, .ref (D.2.2 10 r0))] [] μ
def pt_X10_line_1 (l : Launch) (D : gD) (d : Nat) (q : gMem → Prop) (Γ : gC) (r0 : Nat) (μ : gMem) : Prop := G l D RX10 cX10_line 4 none d (pV q) Γ 16 [(0, .ref (D.2.2 10 r0))] [] μ
def pt_X10_line_2 (l : Launch) (D : gD) (d : Nat) (q : gMem → Prop) (Γ : gC) (r0 : Nat) (x1 : Int32) (μ : gMem) : Prop := G l D RX10 cX10_line 4 none d (pV q) Γ 71 [(0, .ref (D.2.2 10 r0)), (1, .int x1)] [] μ
def pt_X10_line_3 (l : Launch) (D : gD) (d : Nat) (q : gMem → Prop) (Γ : gC) (r0 : Nat) (μ : gMem) : Prop := G l D RX10 cX10_line 4 none d (pV q) Γ 406 [(0, .ref (D.2.2 10 r0))] [] μ
def pt_X10_line_4 (l : Launch) (D : gD) (d : Nat) (q : gMem → Prop) (Γ : gC) (r0 : Nat) (μ : gMem) : Prop := G l D RX10 cX10_line 4 none d (pV q) Γ 435 [(0, .ref (D.2.2 10 r0))] [] μ
set_option maxRecDepth 20000 in
set_option maxHeartbeats 4000000 in
theorem bl_X10_line_0 {l : Launch} {D : gD} {d : Nat} {q : gMem → Prop} {Γ : gC} {r0 : Nat} {μ : gMem} (hr0 : r0 < 1) (h : ((¬ (μ.1 10 r0 22) = 0) → pt_X10_line_1 l D d q Γ r0 μ) ∧ (((μ.1 10 r0 22) = 0) → (((μ.1 10 r0 23) ≤ (7 : Int32)) → ∀ x1_3 : Int32, x1_3 = μ.1 10 r0 23 → ∃ (d_4 : Nat) (q_5 : Int32 → gMem → Prop), d_4 < d ∧ Ctr l D d_4 yX10_isFull cX10_isFull 2 (some .boolean) [.ref (D.2.2 10 r0), .int x1_3] μ (pI q_5) ∧ ∀ (v_9 : Int32) (μ_8 : gMem), q_5 v_9 μ_8 → ((v_9 = 0) → ((x1_3 < (3 : Int32)) → pt_X10_line_2 l D d q Γ r0 x1_3 μ_8) ∧ ((¬ x1_3 < (3 : Int32)) → (((6 : Int32) < x1_3) → pt_X10_line_2 l D d q Γ r0 x1_3 μ_8) ∧ ((¬ (6 : Int32) < x1_3) → ((¬ (((μ_8.1 10 r0 17) >>> (x1_3 &&& 31)) &&& (1 : Int32)) = (1 : Int32)) → pt_X10_line_2 l D d q Γ r0 x1_3 μ_8) ∧ (((((μ_8.1 10 r0 17) >>> (x1_3 &&& 31)) &&& (1 : Int32)) = (1 : Int32)) → ∃ (d_15 : Nat) (q_16 : gMem → Prop), d_15 < d ∧ Ctr l D d_15 yX10_wrong cX10_wrong 2 none [.ref (D.2.2 10 r0), .int (3 : Int32)] μ_8 (pV q_16) ∧ ∀ (μ_19 : gMem), q_16 μ_19 → pt_X10_line_2 l D d q Γ r0 x1_3 μ_19)))) ∧ ((¬ v_9 = 0) → ∃ (d_22 : Nat) (q_23 : gMem → Prop), d_22 < d ∧ Ctr l D d_22 yX10_wrong cX10_wrong 2 none [.ref (D.2.2 10 r0), .int (2 : Int32)] μ_8 (pV q_23) ∧ ∀ (μ_26 : gMem), q_23 μ_26 → pt_X10_line_2 l D d q Γ r0 x1_3 μ_26)) ∧ ((¬ (μ.1 10 r0 23) ≤ (7 : Int32)) → pt_X10_line_1 l D d q Γ r0 μ))) : pt_X10_line_0 l D d q Γ r0 μ := by
  unfold pt_X10_line_0
  refine g_aload_n dX10_line_0 rfl ?_
  refine g_gfI fi_10_164 hr0 dX10_line_1 ?_
  refine g_if_ne (tgt := 16) dX10_line_4 (by decide) (fun c_1 => ?_) (fun c_1 => ?_)
  · have h := h.1 c_1
    exact g_sub [0] rfl h
  · have h := h.2 c_1
    refine g_aload_n dX10_line_7 rfl ?_
    refine g_gfI fi_10_174 hr0 dX10_line_8 ?_
    refine g_bipush (7 : Int32) dX10_line_11 rfl ?_
    refine g_icmp_le (tgt := 22) dX10_line_13 (by decide) (fun c_2 => ?_) (fun c_2 => ?_)
    · have h := h.1 c_2
      refine g_aload_n dX10_line_22 rfl ?_
      refine g_gfI fi_10_174 hr0 dX10_line_23 ?_
      refine g_istore_n dX10_line_26 (by decide) (fun x1_3 ex1_3 => g_sub (lv' := [(0, .ref (D.2.2 10 r0)), (1, .int x1_3)]) [1, 0] rfl ?_)
      have h := h x1_3 ex1_3
      refine g_aload_n dX10_line_27 rfl ?_
      refine g_iload_n dX10_line_28 rfl ?_
      obtain ⟨d_4, q_5, hd_6, hc_7, h⟩ := h
      refine g_cV ca_X10_219 ob_10 hc_7 hd_6 (by decide) hr0 rfl rfl (by first | exact Nat.le_of_ble_eq_true rfl | decide) dX10_line_29 (kI (fun v_9 μ_8 hq_10 => ?_))
      have h := h v_9 μ_8 hq_10
      refine g_if_eq (tgt := 43) dX10_line_32 (by decide) (fun c_11 => ?_) (fun c_11 => ?_)
      · have h := h.1 c_11
        refine g_iload_n dX10_line_43 rfl ?_
        refine g_iconst (3 : Int32) dX10_line_44 rfl ?_
        refine g_icmp_lt (tgt := 71) dX10_line_45 (by decide) (fun c_12 => ?_) (fun c_12 => ?_)
        · have h := h.1 c_12
          exact g_sub [0, 1] rfl h
        · have h := h.2 c_12
          refine g_iload_n dX10_line_48 rfl ?_
          refine g_bipush (6 : Int32) dX10_line_49 rfl ?_
          refine g_icmp_gt (tgt := 71) dX10_line_51 (by decide) (fun c_13 => ?_) (fun c_13 => ?_)
          · have h := h.1 c_13
            exact g_sub [0, 1] rfl h
          · have h := h.2 c_13
            refine g_aload_n dX10_line_54 rfl ?_
            refine g_gfI fi_10_222 hr0 dX10_line_55 ?_
            refine g_iload_n dX10_line_58 rfl ?_
            refine g_ishr dX10_line_59 ?_
            refine g_iconst (1 : Int32) dX10_line_60 rfl ?_
            refine g_iand dX10_line_61 ?_
            refine g_iconst (1 : Int32) dX10_line_62 rfl ?_
            refine g_icmp_ne (tgt := 71) dX10_line_63 (by decide) (fun c_14 => ?_) (fun c_14 => ?_)
            · have h := h.1 c_14
              exact g_sub [0, 1] rfl h
            · have h := h.2 c_14
              refine g_aload_n dX10_line_66 rfl ?_
              refine g_iconst (3 : Int32) dX10_line_67 rfl ?_
              obtain ⟨d_15, q_16, hd_17, hc_18, h⟩ := h
              refine g_cV ca_X10_208 ob_10 hc_18 hd_17 (by decide) hr0 rfl rfl (by first | exact Nat.le_of_ble_eq_true rfl | decide) dX10_line_68 (kV (fun μ_19 hq_21 => ?_))
              have h := h μ_19 hq_21
              exact g_sub [0, 1] rfl h
      · have h := h.2 c_11
        refine g_aload_n dX10_line_35 rfl ?_
        refine g_iconst (2 : Int32) dX10_line_36 rfl ?_
        obtain ⟨d_22, q_23, hd_24, hc_25, h⟩ := h
        refine g_cV ca_X10_208 ob_10 hc_25 hd_24 (by decide) hr0 rfl rfl (by first | exact Nat.le_of_ble_eq_true rfl | decide) dX10_line_37 (kV (fun μ_26 hq_28 => ?_))
        have h := h μ_26 hq_28
        refine g_goto (tgt := 71) dX10_line_40 (by decide) ?_
        exact g_sub [0, 1] rfl h
    · have h := h.2 c_2
      exact g_sub [0] rfl h
set_option maxRecDepth 20000 in
set_option maxHeartbeats 4000000 in
theorem bl_X10_line_1 {l : Launch} {D : gD} {d : Nat} {q : gMem → Prop} {Γ : gC} {r0 : Nat} {μ : gMem} (hr0 : r0 < 1) (h : ∃ (d_1 : Nat) (q_2 : gMem → Prop), d_1 < d ∧ Ctr l D d_1 yX10_wrong cX10_wrong 2 none [.ref (D.2.2 10 r0), .int (1 : Int32)] μ (pV q_2) ∧ ∀ (μ_5 : gMem), q_2 μ_5 → q μ_5) : pt_X10_line_1 l D d q Γ r0 μ := by
  unfold pt_X10_line_1
  refine g_aload_n dX10_line_16 rfl ?_
  refine g_iconst (1 : Int32) dX10_line_17 rfl ?_
  obtain ⟨d_1, q_2, hd_3, hc_4, h⟩ := h
  refine g_cV ca_X10_208 ob_10 hc_4 hd_3 (by decide) hr0 rfl rfl (by first | exact Nat.le_of_ble_eq_true rfl | decide) dX10_line_18 (kV (fun μ_5 hq_7 => ?_))
  have h := h μ_5 hq_7
  exact g_vret dX10_line_21 rfl ⟨rfl, h⟩
set_option maxRecDepth 20000 in
set_option maxHeartbeats 4000000 in
theorem bl_X10_line_2 {l : Launch} {D : gD} {d : Nat} {q : gMem → Prop} {Γ : gC} {r0 : Nat} {x1 : Int32} {μ : gMem} (hr0 : r0 < 1) (h : (((μ.1 10 r0 24) = 0) → ∀ μ_2 : gMem, μ_2 = gsI μ 10 r0 17 ((μ.1 10 r0 17) ||| ((1 : Int32) <<< (x1 &&& 31))) → ∃ (d_3 : Nat) (q_4 : gMem → Prop), d_3 < d ∧ Ctr l D d_3 yX10_token cX10_token 2 none [.ref (D.2.2 10 r0)] μ_2 (pV q_4) ∧ ∀ (μ_7 : gMem), q_4 μ_7 → (x1 = (0 : Int32) → ∃ (d_11 : Nat) (q_12 : Int32 → gMem → Prop), d_11 < d ∧ Ctr l D d_11 yX10_fresher cX10_fresher 2 (some .int) [.ref (D.2.2 10 r0), .int (0 : Int32)] μ_7 (pI q_12) ∧ ∀ (v_16 : Int32) (μ_15 : gMem), q_12 v_16 μ_15 → ∀ x2_18 : Int32, x2_18 = (5 : Int32) + v_16 → ∃ (d_19 : Nat) (q_20 : Int32 → gMem → Prop), d_19 < d ∧ Ctr l D d_19 yX10_fresher cX10_fresher 2 (some .int) [.ref (D.2.2 10 r0), .int (0 : Int32)] μ_15 (pI q_20) ∧ ∀ (v_24 : Int32) (μ_23 : gMem), q_20 v_24 μ_23 → ∃ (d_26 : Nat) (q_27 : Int32 → gMem → Prop), d_26 < d ∧ Ctr l D d_26 yX10_fresh cX10_fresh 5 (some .int) [.ref (D.2.2 10 r0), .ref (D.2.2 708 r0), .int (5 : Int32), .int v_24] μ_23 (pI q_27) ∧ ∀ (v_31 : Int32) (μ_30 : gMem), q_27 v_31 μ_30 → ∃ j_33 : Nat, j_33 < 10 ∧ x2_18 = nI j_33 ∧ (∀ μ_34 : gMem, μ_34 = gsI μ_30 708 r0 j_33 v_31 → ∃ (d_35 : Nat) (q_36 : Int32 → gMem → Prop), d_35 < d ∧ Ctr l D d_35 yX10_numeral cX10_numeral 4 (some .int) [.ref (D.2.2 10 r0), .int (0 : Int32), .int (99 : Int32)] μ_34 (pI q_36) ∧ ∀ (v_40 : Int32) (μ_39 : gMem), q_36 v_40 μ_39 → ∃ j_42 : Nat, j_42 < 10 ∧ x2_18 = nI j_42 ∧ (∀ μ_43 : gMem, μ_43 = gsI μ_39 709 r0 j_42 v_40 → ∃ (d_44 : Nat) (q_45 : Int32 → gMem → Prop), d_44 < d ∧ Ctr l D d_44 yX10_numeral cX10_numeral 4 (some .int) [.ref (D.2.2 10 r0), .int (0 : Int32), .int (99 : Int32)] μ_43 (pI q_45) ∧ ∀ (v_49 : Int32) (μ_48 : gMem), q_45 v_49 μ_48 → ∃ j_51 : Nat, j_51 < 10 ∧ x2_18 = nI j_51 ∧ (∀ μ_52 : gMem, μ_52 = gsI μ_48 710 r0 j_51 v_49 → ∃ (d_53 : Nat) (q_54 : Int32 → gMem → Prop), d_53 < d ∧ Ctr l D d_53 yX10_numeral cX10_numeral 4 (some .int) [.ref (D.2.2 10 r0), .int (0 : Int32), .int (99 : Int32)] μ_52 (pI q_54) ∧ ∀ (v_58 : Int32) (μ_57 : gMem), q_54 v_58 μ_57 → ∃ j_60 : Nat, j_60 < 10 ∧ x2_18 = nI j_60 ∧ (∀ μ_61 : gMem, μ_61 = gsI μ_57 711 r0 j_60 v_58 → ∃ (d_62 : Nat) (q_63 : Int32 → gMem → Prop), d_62 < d ∧ Ctr l D d_62 yX10_fresher cX10_fresher 2 (some .int) [.ref (D.2.2 10 r0), .int (0 : Int32)] μ_61 (pI q_63) ∧ ∀ (v_67 : Int32) (μ_66 : gMem), q_63 v_67 μ_66 → ∃ (d_69 : Nat) (q_70 : gMem → Prop), d_69 < d ∧ Ctr l D d_69 yX10_reads cX10_reads 3 none [.ref (D.2.2 10 r0), .int (0 : Int32), .int (v_67 + (1 : Int32))] μ_66 (pV q_70) ∧ ∀ (μ_73 : gMem), q_70 μ_73 → pt_X10_line_3 l D d q Γ r0 μ_73))))) ∧ (x1 = (1 : Int32) → ∃ (d_76 : Nat) (q_77 : Int32 → gMem → Prop), d_76 < d ∧ Ctr l D d_76 yX10_fresher cX10_fresher 2 (some .int) [.ref (D.2.2 10 r0), .int (1 : Int32)] μ_7 (pI q_77) ∧ ∀ (v_81 : Int32) (μ_80 : gMem), q_77 v_81 μ_80 → ∀ x3_83 : Int32, x3_83 = (6 : Int32) + v_81 → ∃ (d_84 : Nat) (q_85 : Int32 → gMem → Prop), d_84 < d ∧ Ctr l D d_84 yX10_fresher cX10_fresher 2 (some .int) [.ref (D.2.2 10 r0), .int (1 : Int32)] μ_80 (pI q_85) ∧ ∀ (v_89 : Int32) (μ_88 : gMem), q_85 v_89 μ_88 → ∃ (d_91 : Nat) (q_92 : Int32 → gMem → Prop), d_91 < d ∧ Ctr l D d_91 yX10_fresh cX10_fresh 5 (some .int) [.ref (D.2.2 10 r0), .ref (D.2.2 712 r0), .int (6 : Int32), .int v_89] μ_88 (pI q_92) ∧ ∀ (v_96 : Int32) (μ_95 : gMem), q_92 v_96 μ_95 → ∃ j_98 : Nat, j_98 < 12 ∧ x3_83 = nI j_98 ∧ (∀ μ_99 : gMem, μ_99 = gsI μ_95 712 r0 j_98 v_96 → ∃ (d_100 : Nat) (q_101 : Int32 → gMem → Prop), d_100 < d ∧ Ctr l D d_100 yX10_numeral cX10_numeral 4 (some .int) [.ref (D.2.2 10 r0), .int (0 : Int32), .int (20 : Int32)] μ_99 (pI q_101) ∧ ∀ (v_105 : Int32) (μ_104 : gMem), q_101 v_105 μ_104 → ∃ j_107 : Nat, j_107 < 12 ∧ x3_83 = nI j_107 ∧ (∀ μ_108 : gMem, μ_108 = gsI μ_104 713 r0 j_107 v_105 → ∃ (d_109 : Nat) (q_110 : Int32 → gMem → Prop), d_109 < d ∧ Ctr l D d_109 yX10_numeral cX10_numeral 4 (some .int) [.ref (D.2.2 10 r0), .int (0 : Int32), .int (20 : Int32)] μ_108 (pI q_110) ∧ ∀ (v_114 : Int32) (μ_113 : gMem), q_110 v_114 μ_113 → ∃ j_116 : Nat, j_116 < 12 ∧ x3_83 = nI j_116 ∧ (∀ μ_117 : gMem, μ_117 = gsI μ_113 714 r0 j_116 v_114 → ∃ (d_118 : Nat) (q_119 : Int32 → gMem → Prop), d_118 < d ∧ Ctr l D d_118 yX10_numeral cX10_numeral 4 (some .int) [.ref (D.2.2 10 r0), .int (0 : Int32), .int (9 : Int32)] μ_117 (pI q_119) ∧ ∀ (v_123 : Int32) (μ_122 : gMem), q_119 v_123 μ_122 → ∃ j_125 : Nat, j_125 < 12 ∧ x3_83 = nI j_125 ∧ (∀ μ_126 : gMem, μ_126 = gsI μ_122 715 r0 j_125 v_123 → ∃ (d_127 : Nat) (q_128 : Int32 → gMem → Prop), d_127 < d ∧ Ctr l D d_127 yX10_fresher cX10_fresher 2 (some .int) [.ref (D.2.2 10 r0), .int (1 : Int32)] μ_126 (pI q_128) ∧ ∀ (v_132 : Int32) (μ_131 : gMem), q_128 v_132 μ_131 → ∃ (d_134 : Nat) (q_135 : gMem → Prop), d_134 < d ∧ Ctr l D d_134 yX10_reads cX10_reads 3 none [.ref (D.2.2 10 r0), .int (1 : Int32), .int (v_132 + (1 : Int32))] μ_131 (pV q_135) ∧ ∀ (μ_138 : gMem), q_135 μ_138 → pt_X10_line_3 l D d q Γ r0 μ_138))))) ∧ (x1 = (2 : Int32) → ∃ (d_141 : Nat) (q_142 : gMem → Prop), d_141 < d ∧ Ctr l D d_141 yX10_planLine cX10_planLine 5 none [.ref (D.2.2 10 r0)] μ_7 (pV q_142) ∧ ∀ (μ_145 : gMem), q_142 μ_145 → pt_X10_line_3 l D d q Γ r0 μ_145) ∧ (x1 = (3 : Int32) → ∃ (d_148 : Nat) (q_149 : Int32 → gMem → Prop), d_148 < d ∧ Ctr l D d_148 yX10_numeral cX10_numeral 4 (some .int) [.ref (D.2.2 10 r0), .int (0 : Int32), .int (999 : Int32)] μ_7 (pI q_149) ∧ ∀ (v_153 : Int32) (μ_152 : gMem), q_149 v_153 μ_152 → ∃ (d_155 : Nat) (q_156 : gMem → Prop), d_155 < d ∧ Ctr l D d_155 yX10_reads cX10_reads 3 none [.ref (D.2.2 10 r0), .int (3 : Int32), .int v_153] μ_152 (pV q_156) ∧ ∀ (μ_159 : gMem), q_156 μ_159 → ∃ (d_162 : Nat) (q_163 : Int32 → gMem → Prop), d_162 < d ∧ Ctr l D d_162 yX10_numeral cX10_numeral 4 (some .int) [.ref (D.2.2 10 r0), .int (1 : Int32), .int (14 : Int32)] μ_159 (pI q_163) ∧ ∀ (v_167 : Int32) (μ_166 : gMem), q_163 v_167 μ_166 → ∃ (d_169 : Nat) (q_170 : gMem → Prop), d_169 < d ∧ Ctr l D d_169 yX10_reads cX10_reads 3 none [.ref (D.2.2 10 r0), .int (4 : Int32), .int v_167] μ_166 (pV q_170) ∧ ∀ (μ_173 : gMem), q_170 μ_173 → pt_X10_line_3 l D d q Γ r0 μ_173) ∧ (x1 = (4 : Int32) → ∃ (d_176 : Nat) (q_177 : Int32 → gMem → Prop), d_176 < d ∧ Ctr l D d_176 yX10_numeral cX10_numeral 4 (some .int) [.ref (D.2.2 10 r0), .int (0 : Int32), .int (99 : Int32)] μ_7 (pI q_177) ∧ ∀ (v_181 : Int32) (μ_180 : gMem), q_177 v_181 μ_180 → ∃ (d_183 : Nat) (q_184 : gMem → Prop), d_183 < d ∧ Ctr l D d_183 yX10_reads cX10_reads 3 none [.ref (D.2.2 10 r0), .int (5 : Int32), .int v_181] μ_180 (pV q_184) ∧ ∀ (μ_187 : gMem), q_184 μ_187 → ∃ (d_190 : Nat) (q_191 : Int32 → gMem → Prop), d_190 < d ∧ Ctr l D d_190 yX10_numeral cX10_numeral 4 (some .int) [.ref (D.2.2 10 r0), .int (0 : Int32), .int (999 : Int32)] μ_187 (pI q_191) ∧ ∀ (v_195 : Int32) (μ_194 : gMem), q_191 v_195 μ_194 → ∃ (d_197 : Nat) (q_198 : gMem → Prop), d_197 < d ∧ Ctr l D d_197 yX10_reads cX10_reads 3 none [.ref (D.2.2 10 r0), .int (6 : Int32), .int v_195] μ_194 (pV q_198) ∧ ∀ (μ_201 : gMem), q_198 μ_201 → pt_X10_line_3 l D d q Γ r0 μ_201) ∧ (x1 = (5 : Int32) → ∃ (d_204 : Nat) (q_205 : Int32 → gMem → Prop), d_204 < d ∧ Ctr l D d_204 yX10_numeral cX10_numeral 4 (some .int) [.ref (D.2.2 10 r0), .int (0 : Int32), .int (100 : Int32)] μ_7 (pI q_205) ∧ ∀ (v_209 : Int32) (μ_208 : gMem), q_205 v_209 μ_208 → ∃ (d_211 : Nat) (q_212 : gMem → Prop), d_211 < d ∧ Ctr l D d_211 yX10_reads cX10_reads 3 none [.ref (D.2.2 10 r0), .int (7 : Int32), .int v_209] μ_208 (pV q_212) ∧ ∀ (μ_215 : gMem), q_212 μ_215 → pt_X10_line_3 l D d q Γ r0 μ_215) ∧ (x1 = (6 : Int32) → ∃ (d_218 : Nat) (q_219 : Int32 → gMem → Prop), d_218 < d ∧ Ctr l D d_218 yX10_numeral cX10_numeral 4 (some .int) [.ref (D.2.2 10 r0), .int (0 : Int32), .int (99999 : Int32)] μ_7 (pI q_219) ∧ ∀ (v_223 : Int32) (μ_222 : gMem), q_219 v_223 μ_222 → ∃ (d_225 : Nat) (q_226 : gMem → Prop), d_225 < d ∧ Ctr l D d_225 yX10_reads cX10_reads 3 none [.ref (D.2.2 10 r0), .int (8 : Int32), .int v_223] μ_222 (pV q_226) ∧ ∀ (μ_229 : gMem), q_226 μ_229 → pt_X10_line_3 l D d q Γ r0 μ_229) ∧ ((¬ x1 = (0 : Int32) ∧ ¬ x1 = (1 : Int32) ∧ ¬ x1 = (2 : Int32) ∧ ¬ x1 = (3 : Int32) ∧ ¬ x1 = (4 : Int32) ∧ ¬ x1 = (5 : Int32) ∧ ¬ x1 = (6 : Int32)) → ∃ (d_232 : Nat) (q_233 : gMem → Prop), d_232 < d ∧ Ctr l D d_232 yX10_lawLine cX10_lawLine 2 none [.ref (D.2.2 10 r0)] μ_7 (pV q_233) ∧ ∀ (μ_236 : gMem), q_233 μ_236 → pt_X10_line_3 l D d q Γ r0 μ_236)) ∧ ((¬ (μ.1 10 r0 24) = 0) → q μ)) : pt_X10_line_2 l D d q Γ r0 x1 μ := by
  unfold pt_X10_line_2
  refine g_aload_n dX10_line_71 rfl ?_
  refine g_gfI fi_10_199 hr0 dX10_line_72 ?_
  refine g_if_eq (tgt := 79) dX10_line_75 (by decide) (fun c_1 => ?_) (fun c_1 => ?_)
  · have h := h.1 c_1
    refine g_aload_n dX10_line_79 rfl ?_
    refine g_dup dX10_line_80 rfl ?_
    refine g_gfI fi_10_222 hr0 dX10_line_81 ?_
    refine g_iconst (1 : Int32) dX10_line_84 rfl ?_
    refine g_iload_n dX10_line_85 rfl ?_
    refine g_ishl dX10_line_86 ?_
    refine g_ior dX10_line_87 ?_
    refine g_pfI fi_10_222 hr0 rfl rfl dX10_line_88 ?_
    obtain ⟨μ_2, eμ_2⟩ : ∃ z : gMem, z = gsI μ 10 r0 17 ((μ.1 10 r0 17) ||| ((1 : Int32) <<< (x1 &&& 31))) := ⟨_, rfl⟩
    have h := h μ_2 eμ_2
    refine g_mem eμ_2.symm ?_
    refine g_aload_n dX10_line_91 rfl ?_
    obtain ⟨d_3, q_4, hd_5, hc_6, h⟩ := h
    refine g_cV ca_X10_205 ob_10 hc_6 hd_5 (by decide) hr0 rfl rfl (by first | exact Nat.le_of_ble_eq_true rfl | decide) dX10_line_92 (kV (fun μ_7 hq_9 => ?_))
    have h := h μ_7 hq_9
    refine g_iload_n dX10_line_95 rfl ?_
    by_cases c_10_0 : x1 = (0 : Int32)
    · refine g_tableIn (off := 44) (tgt := 140) dX10_line_96 (by rw [c_10_0]; decide) (by rw [c_10_0]; decide) (by rw [c_10_0]; rfl) (by decide) ?_
      have h := h.1 c_10_0
      refine g_iconst (5 : Int32) dX10_line_140 rfl ?_
      refine g_aload_n dX10_line_141 rfl ?_
      refine g_iconst (0 : Int32) dX10_line_142 rfl ?_
      obtain ⟨d_11, q_12, hd_13, hc_14, h⟩ := h
      refine g_cV ca_X10_215 ob_10 hc_14 hd_13 (by decide) hr0 rfl rfl (by first | exact Nat.le_of_ble_eq_true rfl | decide) dX10_line_143 (kI (fun v_16 μ_15 hq_17 => ?_))
      have h := h v_16 μ_15 hq_17
      refine g_iadd dX10_line_146 ?_
      refine g_istore_n dX10_line_147 (by decide) (fun x2_18 ex2_18 => g_sub (lv' := [(0, .ref (D.2.2 10 r0)), (2, .int x2_18)]) [1, 0] rfl ?_)
      have h := h x2_18 ex2_18
      refine g_aload_n dX10_line_148 rfl ?_
      refine g_gfR fl_10_16 rfl hr0 dX10_line_149 ?_
      refine g_iload_n dX10_line_152 rfl ?_
      refine g_aload_n dX10_line_153 rfl ?_
      refine g_aload_n dX10_line_154 rfl ?_
      refine g_gfR fl_10_16 rfl hr0 dX10_line_155 ?_
      refine g_iconst (5 : Int32) dX10_line_158 rfl ?_
      refine g_aload_n dX10_line_159 rfl ?_
      refine g_iconst (0 : Int32) dX10_line_160 rfl ?_
      obtain ⟨d_19, q_20, hd_21, hc_22, h⟩ := h
      refine g_cV ca_X10_215 ob_10 hc_22 hd_21 (by decide) hr0 rfl rfl (by first | exact Nat.le_of_ble_eq_true rfl | decide) dX10_line_161 (kI (fun v_24 μ_23 hq_25 => ?_))
      have h := h v_24 μ_23 hq_25
      obtain ⟨d_26, q_27, hd_28, hc_29, h⟩ := h
      refine g_cV ca_X10_225 ob_10 hc_29 hd_28 (by decide) hr0 rfl rfl (by first | exact Nat.le_of_ble_eq_true rfl | decide) dX10_line_164 (kI (fun v_31 μ_30 hq_32 => ?_))
      have h := h v_31 μ_30 hq_32
      obtain ⟨j_33, hj_33, ej_33, h⟩ := h
      refine g_iast j_33 hr0 rfl hj_33 (by decide) ej_33 dX10_line_167 ?_
      obtain ⟨μ_34, eμ_34⟩ : ∃ z : gMem, z = gsI μ_30 708 r0 j_33 v_31 := ⟨_, rfl⟩
      have h := h μ_34 eμ_34
      refine g_mem eμ_34.symm ?_
      refine g_aload_n dX10_line_168 rfl ?_
      refine g_gfR fl_10_19 rfl hr0 dX10_line_169 ?_
      refine g_iload_n dX10_line_172 rfl ?_
      refine g_aload_n dX10_line_173 rfl ?_
      refine g_iconst (0 : Int32) dX10_line_174 rfl ?_
      refine g_bipush (99 : Int32) dX10_line_175 rfl ?_
      obtain ⟨d_35, q_36, hd_37, hc_38, h⟩ := h
      refine g_cV ca_X10_229 ob_10 hc_38 hd_37 (by decide) hr0 rfl rfl (by first | exact Nat.le_of_ble_eq_true rfl | decide) dX10_line_177 (kI (fun v_40 μ_39 hq_41 => ?_))
      have h := h v_40 μ_39 hq_41
      obtain ⟨j_42, hj_42, ej_42, h⟩ := h
      refine g_iast j_42 hr0 rfl hj_42 (by decide) ej_42 dX10_line_180 ?_
      obtain ⟨μ_43, eμ_43⟩ : ∃ z : gMem, z = gsI μ_39 709 r0 j_42 v_40 := ⟨_, rfl⟩
      have h := h μ_43 eμ_43
      refine g_mem eμ_43.symm ?_
      refine g_aload_n dX10_line_181 rfl ?_
      refine g_gfR fl_10_22 rfl hr0 dX10_line_182 ?_
      refine g_iload_n dX10_line_185 rfl ?_
      refine g_aload_n dX10_line_186 rfl ?_
      refine g_iconst (0 : Int32) dX10_line_187 rfl ?_
      refine g_bipush (99 : Int32) dX10_line_188 rfl ?_
      obtain ⟨d_44, q_45, hd_46, hc_47, h⟩ := h
      refine g_cV ca_X10_229 ob_10 hc_47 hd_46 (by decide) hr0 rfl rfl (by first | exact Nat.le_of_ble_eq_true rfl | decide) dX10_line_190 (kI (fun v_49 μ_48 hq_50 => ?_))
      have h := h v_49 μ_48 hq_50
      obtain ⟨j_51, hj_51, ej_51, h⟩ := h
      refine g_iast j_51 hr0 rfl hj_51 (by decide) ej_51 dX10_line_193 ?_
      obtain ⟨μ_52, eμ_52⟩ : ∃ z : gMem, z = gsI μ_48 710 r0 j_51 v_49 := ⟨_, rfl⟩
      have h := h μ_52 eμ_52
      refine g_mem eμ_52.symm ?_
      refine g_aload_n dX10_line_194 rfl ?_
      refine g_gfR fl_10_25 rfl hr0 dX10_line_195 ?_
      refine g_iload_n dX10_line_198 rfl ?_
      refine g_aload_n dX10_line_199 rfl ?_
      refine g_iconst (0 : Int32) dX10_line_200 rfl ?_
      refine g_bipush (99 : Int32) dX10_line_201 rfl ?_
      obtain ⟨d_53, q_54, hd_55, hc_56, h⟩ := h
      refine g_cV ca_X10_229 ob_10 hc_56 hd_55 (by decide) hr0 rfl rfl (by first | exact Nat.le_of_ble_eq_true rfl | decide) dX10_line_203 (kI (fun v_58 μ_57 hq_59 => ?_))
      have h := h v_58 μ_57 hq_59
      obtain ⟨j_60, hj_60, ej_60, h⟩ := h
      refine g_iast j_60 hr0 rfl hj_60 (by decide) ej_60 dX10_line_206 ?_
      obtain ⟨μ_61, eμ_61⟩ : ∃ z : gMem, z = gsI μ_57 711 r0 j_60 v_58 := ⟨_, rfl⟩
      have h := h μ_61 eμ_61
      refine g_mem eμ_61.symm ?_
      refine g_aload_n dX10_line_207 rfl ?_
      refine g_iconst (0 : Int32) dX10_line_208 rfl ?_
      refine g_aload_n dX10_line_209 rfl ?_
      refine g_iconst (0 : Int32) dX10_line_210 rfl ?_
      obtain ⟨d_62, q_63, hd_64, hc_65, h⟩ := h
      refine g_cV ca_X10_215 ob_10 hc_65 hd_64 (by decide) hr0 rfl rfl (by first | exact Nat.le_of_ble_eq_true rfl | decide) dX10_line_211 (kI (fun v_67 μ_66 hq_68 => ?_))
      have h := h v_67 μ_66 hq_68
      refine g_iconst (1 : Int32) dX10_line_214 rfl ?_
      refine g_iadd dX10_line_215 ?_
      obtain ⟨d_69, q_70, hd_71, hc_72, h⟩ := h
      refine g_cV ca_X10_233 ob_10 hc_72 hd_71 (by decide) hr0 rfl rfl (by first | exact Nat.le_of_ble_eq_true rfl | decide) dX10_line_216 (kV (fun μ_73 hq_75 => ?_))
      have h := h μ_73 hq_75
      refine g_goto (tgt := 406) dX10_line_219 (by decide) ?_
      exact g_sub [0] rfl h
    by_cases c_10_1 : x1 = (1 : Int32)
    · refine g_tableIn (off := 126) (tgt := 222) dX10_line_96 (by rw [c_10_1]; decide) (by rw [c_10_1]; decide) (by rw [c_10_1]; rfl) (by decide) ?_
      have h := h.2.1 c_10_1
      refine g_bipush (6 : Int32) dX10_line_222 rfl ?_
      refine g_aload_n dX10_line_224 rfl ?_
      refine g_iconst (1 : Int32) dX10_line_225 rfl ?_
      obtain ⟨d_76, q_77, hd_78, hc_79, h⟩ := h
      refine g_cV ca_X10_215 ob_10 hc_79 hd_78 (by decide) hr0 rfl rfl (by first | exact Nat.le_of_ble_eq_true rfl | decide) dX10_line_226 (kI (fun v_81 μ_80 hq_82 => ?_))
      have h := h v_81 μ_80 hq_82
      refine g_iadd dX10_line_229 ?_
      refine g_istore_n dX10_line_230 (by decide) (fun x3_83 ex3_83 => g_sub (lv' := [(0, .ref (D.2.2 10 r0)), (3, .int x3_83)]) [1, 0] rfl ?_)
      have h := h x3_83 ex3_83
      refine g_aload_n dX10_line_231 rfl ?_
      refine g_gfR fl_10_28 rfl hr0 dX10_line_232 ?_
      refine g_iload_n dX10_line_235 rfl ?_
      refine g_aload_n dX10_line_236 rfl ?_
      refine g_aload_n dX10_line_237 rfl ?_
      refine g_gfR fl_10_28 rfl hr0 dX10_line_238 ?_
      refine g_bipush (6 : Int32) dX10_line_241 rfl ?_
      refine g_aload_n dX10_line_243 rfl ?_
      refine g_iconst (1 : Int32) dX10_line_244 rfl ?_
      obtain ⟨d_84, q_85, hd_86, hc_87, h⟩ := h
      refine g_cV ca_X10_215 ob_10 hc_87 hd_86 (by decide) hr0 rfl rfl (by first | exact Nat.le_of_ble_eq_true rfl | decide) dX10_line_245 (kI (fun v_89 μ_88 hq_90 => ?_))
      have h := h v_89 μ_88 hq_90
      obtain ⟨d_91, q_92, hd_93, hc_94, h⟩ := h
      refine g_cV ca_X10_225 ob_10 hc_94 hd_93 (by decide) hr0 rfl rfl (by first | exact Nat.le_of_ble_eq_true rfl | decide) dX10_line_248 (kI (fun v_96 μ_95 hq_97 => ?_))
      have h := h v_96 μ_95 hq_97
      obtain ⟨j_98, hj_98, ej_98, h⟩ := h
      refine g_iast j_98 hr0 rfl hj_98 (by decide) ej_98 dX10_line_251 ?_
      obtain ⟨μ_99, eμ_99⟩ : ∃ z : gMem, z = gsI μ_95 712 r0 j_98 v_96 := ⟨_, rfl⟩
      have h := h μ_99 eμ_99
      refine g_mem eμ_99.symm ?_
      refine g_aload_n dX10_line_252 rfl ?_
      refine g_gfR fl_10_31 rfl hr0 dX10_line_253 ?_
      refine g_iload_n dX10_line_256 rfl ?_
      refine g_aload_n dX10_line_257 rfl ?_
      refine g_iconst (0 : Int32) dX10_line_258 rfl ?_
      refine g_bipush (20 : Int32) dX10_line_259 rfl ?_
      obtain ⟨d_100, q_101, hd_102, hc_103, h⟩ := h
      refine g_cV ca_X10_229 ob_10 hc_103 hd_102 (by decide) hr0 rfl rfl (by first | exact Nat.le_of_ble_eq_true rfl | decide) dX10_line_261 (kI (fun v_105 μ_104 hq_106 => ?_))
      have h := h v_105 μ_104 hq_106
      obtain ⟨j_107, hj_107, ej_107, h⟩ := h
      refine g_iast j_107 hr0 rfl hj_107 (by decide) ej_107 dX10_line_264 ?_
      obtain ⟨μ_108, eμ_108⟩ : ∃ z : gMem, z = gsI μ_104 713 r0 j_107 v_105 := ⟨_, rfl⟩
      have h := h μ_108 eμ_108
      refine g_mem eμ_108.symm ?_
      refine g_aload_n dX10_line_265 rfl ?_
      refine g_gfR fl_10_34 rfl hr0 dX10_line_266 ?_
      refine g_iload_n dX10_line_269 rfl ?_
      refine g_aload_n dX10_line_270 rfl ?_
      refine g_iconst (0 : Int32) dX10_line_271 rfl ?_
      refine g_bipush (20 : Int32) dX10_line_272 rfl ?_
      obtain ⟨d_109, q_110, hd_111, hc_112, h⟩ := h
      refine g_cV ca_X10_229 ob_10 hc_112 hd_111 (by decide) hr0 rfl rfl (by first | exact Nat.le_of_ble_eq_true rfl | decide) dX10_line_274 (kI (fun v_114 μ_113 hq_115 => ?_))
      have h := h v_114 μ_113 hq_115
      obtain ⟨j_116, hj_116, ej_116, h⟩ := h
      refine g_iast j_116 hr0 rfl hj_116 (by decide) ej_116 dX10_line_277 ?_
      obtain ⟨μ_117, eμ_117⟩ : ∃ z : gMem, z = gsI μ_113 714 r0 j_116 v_114 := ⟨_, rfl⟩
      have h := h μ_117 eμ_117
      refine g_mem eμ_117.symm ?_
      refine g_aload_n dX10_line_278 rfl ?_
      refine g_gfR fl_10_37 rfl hr0 dX10_line_279 ?_
      refine g_iload_n dX10_line_282 rfl ?_
      refine g_aload_n dX10_line_283 rfl ?_
      refine g_iconst (0 : Int32) dX10_line_284 rfl ?_
      refine g_bipush (9 : Int32) dX10_line_285 rfl ?_
      obtain ⟨d_118, q_119, hd_120, hc_121, h⟩ := h
      refine g_cV ca_X10_229 ob_10 hc_121 hd_120 (by decide) hr0 rfl rfl (by first | exact Nat.le_of_ble_eq_true rfl | decide) dX10_line_287 (kI (fun v_123 μ_122 hq_124 => ?_))
      have h := h v_123 μ_122 hq_124
      obtain ⟨j_125, hj_125, ej_125, h⟩ := h
      refine g_iast j_125 hr0 rfl hj_125 (by decide) ej_125 dX10_line_290 ?_
      obtain ⟨μ_126, eμ_126⟩ : ∃ z : gMem, z = gsI μ_122 715 r0 j_125 v_123 := ⟨_, rfl⟩
      have h := h μ_126 eμ_126
      refine g_mem eμ_126.symm ?_
      refine g_aload_n dX10_line_291 rfl ?_
      refine g_iconst (1 : Int32) dX10_line_292 rfl ?_
      refine g_aload_n dX10_line_293 rfl ?_
      refine g_iconst (1 : Int32) dX10_line_294 rfl ?_
      obtain ⟨d_127, q_128, hd_129, hc_130, h⟩ := h
      refine g_cV ca_X10_215 ob_10 hc_130 hd_129 (by decide) hr0 rfl rfl (by first | exact Nat.le_of_ble_eq_true rfl | decide) dX10_line_295 (kI (fun v_132 μ_131 hq_133 => ?_))
      have h := h v_132 μ_131 hq_133
      refine g_iconst (1 : Int32) dX10_line_298 rfl ?_
      refine g_iadd dX10_line_299 ?_
      obtain ⟨d_134, q_135, hd_136, hc_137, h⟩ := h
      refine g_cV ca_X10_233 ob_10 hc_137 hd_136 (by decide) hr0 rfl rfl (by first | exact Nat.le_of_ble_eq_true rfl | decide) dX10_line_300 (kV (fun μ_138 hq_140 => ?_))
      have h := h μ_138 hq_140
      refine g_goto (tgt := 406) dX10_line_303 (by decide) ?_
      exact g_sub [0] rfl h
    by_cases c_10_2 : x1 = (2 : Int32)
    · refine g_tableIn (off := 210) (tgt := 306) dX10_line_96 (by rw [c_10_2]; decide) (by rw [c_10_2]; decide) (by rw [c_10_2]; rfl) (by decide) ?_
      have h := h.2.2.1 c_10_2
      refine g_aload_n dX10_line_306 rfl ?_
      obtain ⟨d_141, q_142, hd_143, hc_144, h⟩ := h
      refine g_cV ca_X10_237 ob_10 hc_144 hd_143 (by decide) hr0 rfl rfl (by first | exact Nat.le_of_ble_eq_true rfl | decide) dX10_line_307 (kV (fun μ_145 hq_147 => ?_))
      have h := h μ_145 hq_147
      refine g_goto (tgt := 406) dX10_line_310 (by decide) ?_
      exact g_sub [0] rfl h
    by_cases c_10_3 : x1 = (3 : Int32)
    · refine g_tableIn (off := 217) (tgt := 313) dX10_line_96 (by rw [c_10_3]; decide) (by rw [c_10_3]; decide) (by rw [c_10_3]; rfl) (by decide) ?_
      have h := h.2.2.2.1 c_10_3
      refine g_aload_n dX10_line_313 rfl ?_
      refine g_iconst (3 : Int32) dX10_line_314 rfl ?_
      refine g_aload_n dX10_line_315 rfl ?_
      refine g_iconst (0 : Int32) dX10_line_316 rfl ?_
      refine g_sipush (999 : Int32) dX10_line_317 rfl ?_
      obtain ⟨d_148, q_149, hd_150, hc_151, h⟩ := h
      refine g_cV ca_X10_229 ob_10 hc_151 hd_150 (by decide) hr0 rfl rfl (by first | exact Nat.le_of_ble_eq_true rfl | decide) dX10_line_320 (kI (fun v_153 μ_152 hq_154 => ?_))
      have h := h v_153 μ_152 hq_154
      obtain ⟨d_155, q_156, hd_157, hc_158, h⟩ := h
      refine g_cV ca_X10_233 ob_10 hc_158 hd_157 (by decide) hr0 rfl rfl (by first | exact Nat.le_of_ble_eq_true rfl | decide) dX10_line_323 (kV (fun μ_159 hq_161 => ?_))
      have h := h μ_159 hq_161
      refine g_aload_n dX10_line_326 rfl ?_
      refine g_iconst (4 : Int32) dX10_line_327 rfl ?_
      refine g_aload_n dX10_line_328 rfl ?_
      refine g_iconst (1 : Int32) dX10_line_329 rfl ?_
      refine g_bipush (14 : Int32) dX10_line_330 rfl ?_
      obtain ⟨d_162, q_163, hd_164, hc_165, h⟩ := h
      refine g_cV ca_X10_229 ob_10 hc_165 hd_164 (by decide) hr0 rfl rfl (by first | exact Nat.le_of_ble_eq_true rfl | decide) dX10_line_332 (kI (fun v_167 μ_166 hq_168 => ?_))
      have h := h v_167 μ_166 hq_168
      obtain ⟨d_169, q_170, hd_171, hc_172, h⟩ := h
      refine g_cV ca_X10_233 ob_10 hc_172 hd_171 (by decide) hr0 rfl rfl (by first | exact Nat.le_of_ble_eq_true rfl | decide) dX10_line_335 (kV (fun μ_173 hq_175 => ?_))
      have h := h μ_173 hq_175
      refine g_goto (tgt := 406) dX10_line_338 (by decide) ?_
      exact g_sub [0] rfl h
    by_cases c_10_4 : x1 = (4 : Int32)
    · refine g_tableIn (off := 245) (tgt := 341) dX10_line_96 (by rw [c_10_4]; decide) (by rw [c_10_4]; decide) (by rw [c_10_4]; rfl) (by decide) ?_
      have h := h.2.2.2.2.1 c_10_4
      refine g_aload_n dX10_line_341 rfl ?_
      refine g_iconst (5 : Int32) dX10_line_342 rfl ?_
      refine g_aload_n dX10_line_343 rfl ?_
      refine g_iconst (0 : Int32) dX10_line_344 rfl ?_
      refine g_bipush (99 : Int32) dX10_line_345 rfl ?_
      obtain ⟨d_176, q_177, hd_178, hc_179, h⟩ := h
      refine g_cV ca_X10_229 ob_10 hc_179 hd_178 (by decide) hr0 rfl rfl (by first | exact Nat.le_of_ble_eq_true rfl | decide) dX10_line_347 (kI (fun v_181 μ_180 hq_182 => ?_))
      have h := h v_181 μ_180 hq_182
      obtain ⟨d_183, q_184, hd_185, hc_186, h⟩ := h
      refine g_cV ca_X10_233 ob_10 hc_186 hd_185 (by decide) hr0 rfl rfl (by first | exact Nat.le_of_ble_eq_true rfl | decide) dX10_line_350 (kV (fun μ_187 hq_189 => ?_))
      have h := h μ_187 hq_189
      refine g_aload_n dX10_line_353 rfl ?_
      refine g_bipush (6 : Int32) dX10_line_354 rfl ?_
      refine g_aload_n dX10_line_356 rfl ?_
      refine g_iconst (0 : Int32) dX10_line_357 rfl ?_
      refine g_sipush (999 : Int32) dX10_line_358 rfl ?_
      obtain ⟨d_190, q_191, hd_192, hc_193, h⟩ := h
      refine g_cV ca_X10_229 ob_10 hc_193 hd_192 (by decide) hr0 rfl rfl (by first | exact Nat.le_of_ble_eq_true rfl | decide) dX10_line_361 (kI (fun v_195 μ_194 hq_196 => ?_))
      have h := h v_195 μ_194 hq_196
      obtain ⟨d_197, q_198, hd_199, hc_200, h⟩ := h
      refine g_cV ca_X10_233 ob_10 hc_200 hd_199 (by decide) hr0 rfl rfl (by first | exact Nat.le_of_ble_eq_true rfl | decide) dX10_line_364 (kV (fun μ_201 hq_203 => ?_))
      have h := h μ_201 hq_203
      refine g_goto (tgt := 406) dX10_line_367 (by decide) ?_
      exact g_sub [0] rfl h
    by_cases c_10_5 : x1 = (5 : Int32)
    · refine g_tableIn (off := 274) (tgt := 370) dX10_line_96 (by rw [c_10_5]; decide) (by rw [c_10_5]; decide) (by rw [c_10_5]; rfl) (by decide) ?_
      have h := h.2.2.2.2.2.1 c_10_5
      refine g_aload_n dX10_line_370 rfl ?_
      refine g_bipush (7 : Int32) dX10_line_371 rfl ?_
      refine g_aload_n dX10_line_373 rfl ?_
      refine g_iconst (0 : Int32) dX10_line_374 rfl ?_
      refine g_bipush (100 : Int32) dX10_line_375 rfl ?_
      obtain ⟨d_204, q_205, hd_206, hc_207, h⟩ := h
      refine g_cV ca_X10_229 ob_10 hc_207 hd_206 (by decide) hr0 rfl rfl (by first | exact Nat.le_of_ble_eq_true rfl | decide) dX10_line_377 (kI (fun v_209 μ_208 hq_210 => ?_))
      have h := h v_209 μ_208 hq_210
      obtain ⟨d_211, q_212, hd_213, hc_214, h⟩ := h
      refine g_cV ca_X10_233 ob_10 hc_214 hd_213 (by decide) hr0 rfl rfl (by first | exact Nat.le_of_ble_eq_true rfl | decide) dX10_line_380 (kV (fun μ_215 hq_217 => ?_))
      have h := h μ_215 hq_217
      refine g_goto (tgt := 406) dX10_line_383 (by decide) ?_
      exact g_sub [0] rfl h
    by_cases c_10_6 : x1 = (6 : Int32)
    · refine g_tableIn (off := 290) (tgt := 386) dX10_line_96 (by rw [c_10_6]; decide) (by rw [c_10_6]; decide) (by rw [c_10_6]; rfl) (by decide) ?_
      have h := h.2.2.2.2.2.2.1 c_10_6
      refine g_aload_n dX10_line_386 rfl ?_
      refine g_bipush (8 : Int32) dX10_line_387 rfl ?_
      refine g_aload_n dX10_line_389 rfl ?_
      refine g_iconst (0 : Int32) dX10_line_390 rfl ?_
      refine g_ldc kc_X10_183 dX10_line_391 ?_
      obtain ⟨d_218, q_219, hd_220, hc_221, h⟩ := h
      refine g_cV ca_X10_229 ob_10 hc_221 hd_220 (by decide) hr0 rfl rfl (by first | exact Nat.le_of_ble_eq_true rfl | decide) dX10_line_393 (kI (fun v_223 μ_222 hq_224 => ?_))
      have h := h v_223 μ_222 hq_224
      obtain ⟨d_225, q_226, hd_227, hc_228, h⟩ := h
      refine g_cV ca_X10_233 ob_10 hc_228 hd_227 (by decide) hr0 rfl rfl (by first | exact Nat.le_of_ble_eq_true rfl | decide) dX10_line_396 (kV (fun μ_229 hq_231 => ?_))
      have h := h μ_229 hq_231
      refine g_goto (tgt := 406) dX10_line_399 (by decide) ?_
      exact g_sub [0] rfl h
    have c_10_o : (x1).toInt < 0 ∨ 6 < (x1).toInt := by
      have := lv_neT c_10_0 (a := 0) rfl
      have := lv_neT c_10_1 (a := 1) rfl
      have := lv_neT c_10_2 (a := 2) rfl
      have := lv_neT c_10_3 (a := 3) rfl
      have := lv_neT c_10_4 (a := 4) rfl
      have := lv_neT c_10_5 (a := 5) rfl
      have := lv_neT c_10_6 (a := 6) rfl
      omega
    refine g_tableOut (tgt := 402) dX10_line_96 c_10_o (by decide) ?_
    have h := h.2.2.2.2.2.2.2 ⟨c_10_0, c_10_1, c_10_2, c_10_3, c_10_4, c_10_5, c_10_6⟩
    refine g_aload_n dX10_line_402 rfl ?_
    obtain ⟨d_232, q_233, hd_234, hc_235, h⟩ := h
    refine g_cV ca_X10_240 ob_10 hc_235 hd_234 (by decide) hr0 rfl rfl (by first | exact Nat.le_of_ble_eq_true rfl | decide) dX10_line_403 (kV (fun μ_236 hq_238 => ?_))
    have h := h μ_236 hq_238
    exact g_sub [0] rfl h
  · have h := h.2 c_1
    exact g_vret dX10_line_78 rfl ⟨rfl, h⟩
set_option maxRecDepth 20000 in
set_option maxHeartbeats 4000000 in
theorem bl_X10_line_3 {l : Launch} {D : gD} {d : Nat} {q : gMem → Prop} {Γ : gC} {r0 : Nat} {μ : gMem} (hr0 : r0 < 1) (h : (((μ.1 10 r0 24) = 0) → ∃ (d_2 : Nat) (q_3 : Int32 → gMem → Prop), d_2 < d ∧ Ctr l D d_2 yX10_isSign cX10_isSign 2 (some .boolean) [.ref (D.2.2 10 r0), .int (59 : Int32)] μ (pI q_3) ∧ ∀ (v_7 : Int32) (μ_6 : gMem), q_3 v_7 μ_6 → ((¬ v_7 = 0) → ∃ (d_10 : Nat) (q_11 : gMem → Prop), d_10 < d ∧ Ctr l D d_10 yX10_token cX10_token 2 none [.ref (D.2.2 10 r0)] μ_6 (pV q_11) ∧ ∀ (μ_14 : gMem), q_11 μ_14 → pt_X10_line_4 l D d q Γ r0 μ_14) ∧ ((v_7 = 0) → ∃ (d_17 : Nat) (q_18 : gMem → Prop), d_17 < d ∧ Ctr l D d_17 yX10_wrong cX10_wrong 2 none [.ref (D.2.2 10 r0), .int (1 : Int32)] μ_6 (pV q_18) ∧ ∀ (μ_21 : gMem), q_18 μ_21 → pt_X10_line_4 l D d q Γ r0 μ_21)) ∧ ((¬ (μ.1 10 r0 24) = 0) → q μ)) : pt_X10_line_3 l D d q Γ r0 μ := by
  unfold pt_X10_line_3
  refine g_aload_n dX10_line_406 rfl ?_
  refine g_gfI fi_10_199 hr0 dX10_line_407 ?_
  refine g_if_eq (tgt := 414) dX10_line_410 (by decide) (fun c_1 => ?_) (fun c_1 => ?_)
  · have h := h.1 c_1
    refine g_aload_n dX10_line_414 rfl ?_
    refine g_bipush (59 : Int32) dX10_line_415 rfl ?_
    obtain ⟨d_2, q_3, hd_4, hc_5, h⟩ := h
    refine g_cV ca_X10_243 ob_10 hc_5 hd_4 (by decide) hr0 rfl rfl (by first | exact Nat.le_of_ble_eq_true rfl | decide) dX10_line_417 (kI (fun v_7 μ_6 hq_8 => ?_))
    have h := h v_7 μ_6 hq_8
    refine g_if_ne (tgt := 431) dX10_line_420 (by decide) (fun c_9 => ?_) (fun c_9 => ?_)
    · have h := h.1 c_9
      refine g_aload_n dX10_line_431 rfl ?_
      obtain ⟨d_10, q_11, hd_12, hc_13, h⟩ := h
      refine g_cV ca_X10_205 ob_10 hc_13 hd_12 (by decide) hr0 rfl rfl (by first | exact Nat.le_of_ble_eq_true rfl | decide) dX10_line_432 (kV (fun μ_14 hq_16 => ?_))
      have h := h μ_14 hq_16
      exact g_sub [0] rfl h
    · have h := h.2 c_9
      refine g_aload_n dX10_line_423 rfl ?_
      refine g_iconst (1 : Int32) dX10_line_424 rfl ?_
      obtain ⟨d_17, q_18, hd_19, hc_20, h⟩ := h
      refine g_cV ca_X10_208 ob_10 hc_20 hd_19 (by decide) hr0 rfl rfl (by first | exact Nat.le_of_ble_eq_true rfl | decide) dX10_line_425 (kV (fun μ_21 hq_23 => ?_))
      have h := h μ_21 hq_23
      refine g_goto (tgt := 435) dX10_line_428 (by decide) ?_
      exact g_sub [0] rfl h
  · have h := h.2 c_1
    exact g_vret dX10_line_413 rfl ⟨rfl, h⟩
set_option maxRecDepth 20000 in
set_option maxHeartbeats 4000000 in
theorem bl_X10_line_4 {l : Launch} {D : gD} {d : Nat} {q : gMem → Prop} {Γ : gC} {r0 : Nat} {μ : gMem} (hr0 : r0 < 1) (h : ∀ μ_1 : gMem, μ_1 = gsI μ 10 r0 18 ((μ.1 10 r0 18) + (1 : Int32)) → q μ_1) : pt_X10_line_4 l D d q Γ r0 μ := by
  unfold pt_X10_line_4
  refine g_aload_n dX10_line_435 rfl ?_
  refine g_dup dX10_line_436 rfl ?_
  refine g_gfI fi_10_246 hr0 dX10_line_437 ?_
  refine g_iconst (1 : Int32) dX10_line_440 rfl ?_
  refine g_iadd dX10_line_441 ?_
  refine g_pfI fi_10_246 hr0 rfl rfl dX10_line_442 ?_
  obtain ⟨μ_1, eμ_1⟩ : ∃ z : gMem, z = gsI μ 10 r0 18 ((μ.1 10 r0 18) + (1 : Int32)) := ⟨_, rfl⟩
  have h := h μ_1 eμ_1
  refine g_mem eμ_1.symm ?_
  exact g_vret dX10_line_445 rfl ⟨rfl, h⟩
theorem en_X10_line {l : Launch} {D : gD} {d : Nat} {q : gMem → Prop} {r0 : Nat} {μ : gMem} (h : ∀ Γ : gC, pt_X10_line_0 l D d q Γ r0 μ) : Ctr l D d yX10_line cX10_line 4 none [.ref (D.2.2 10 r0)] μ (pV q) :=
  Ctr_of rfl (by decide) (Nat.le_of_ble_eq_true rfl) (fun Γ => g_sub [0] rfl (h Γ))
def pt_X10_planLine_0 (l : Launch) (D : gD) (d : Nat) (q : gMem → Prop) (Γ : gC) (r0 : Nat) (μ : gMem) : Prop := G l D RX10 cX10_planLine 5 none d (pV q) Γ 0 [(0, .ref (D.2.2 10 r0))] [] μ
def pt_X10_planLine_1 (l : Launch) (D : gD) (d : Nat) (q : gMem → Prop) (Γ : gC) (r0 : Nat) (x3 : Int32) (μ : gMem) : Prop := G l D RX10 cX10_planLine 5 none d (pV q) Γ 66 [(0, .ref (D.2.2 10 r0)), (3, .int x3)] [] μ
set_option maxRecDepth 20000 in
set_option maxHeartbeats 4000000 in
theorem bl_X10_planLine_0 {l : Launch} {D : gD} {d : Nat} {q : gMem → Prop} {Γ : gC} {r0 : Nat} {μ : gMem} (hr0 : r0 < 1) (h : ∃ (d_1 : Nat) (q_2 : Int32 → gMem → Prop), d_1 < d ∧ Ctr l D d_1 yX10_fresher cX10_fresher 2 (some .int) [.ref (D.2.2 10 r0), .int (0 : Int32)] μ (pI q_2) ∧ ∀ (v_6 : Int32) (μ_5 : gMem), q_2 v_6 μ_5 → ∃ (d_8 : Nat) (q_9 : Int32 → gMem → Prop), d_8 < d ∧ Ctr l D d_8 yX10_toldAhead cX10_toldAhead 4 (some .int) [.ref (D.2.2 10 r0), .ref (D.2.2 708 r0), .int (5 : Int32), .int v_6] μ_5 (pI q_9) ∧ ∀ (v_13 : Int32) (μ_12 : gMem), q_9 v_13 μ_12 → ∀ x1_15 : Int32, x1_15 = v_13 → ∃ (d_16 : Nat) (q_17 : gMem → Prop), d_16 < d ∧ Ctr l D d_16 yX10_goOn cX10_goOn 1 none [.ref (D.2.2 10 r0)] μ_12 (pV q_17) ∧ ∀ (μ_20 : gMem), q_17 μ_20 → ∃ (d_23 : Nat) (q_24 : Int32 → gMem → Prop), d_23 < d ∧ Ctr l D d_23 yX10_fresher cX10_fresher 2 (some .int) [.ref (D.2.2 10 r0), .int (1 : Int32)] μ_20 (pI q_24) ∧ ∀ (v_28 : Int32) (μ_27 : gMem), q_24 v_28 μ_27 → ∃ (d_30 : Nat) (q_31 : Int32 → gMem → Prop), d_30 < d ∧ Ctr l D d_30 yX10_toldAhead cX10_toldAhead 4 (some .int) [.ref (D.2.2 10 r0), .ref (D.2.2 712 r0), .int (6 : Int32), .int v_28] μ_27 (pI q_31) ∧ ∀ (v_35 : Int32) (μ_34 : gMem), q_31 v_35 μ_34 → ∀ x2_37 : Int32, x2_37 = v_35 → ∀ x3_38 : Int32, x3_38 = ((30 : Int32) + ((6 : Int32) * x1_15)) + x2_37 → ((¬ (μ_34.1 10 r0 24) = 0) → pt_X10_planLine_1 l D d q Γ r0 x3_38 μ_34) ∧ (((μ_34.1 10 r0 24) = 0) → ∃ j_40 : Nat, j_40 < 60 ∧ x3_38 = nI j_40 ∧ ((((μ_34.1 716 r0 j_40) ≤ 0) → pt_X10_planLine_1 l D d q Γ r0 x3_38 μ_34) ∧ ((¬ (μ_34.1 716 r0 j_40) ≤ 0) → ∃ (d_42 : Nat) (q_43 : gMem → Prop), d_42 < d ∧ Ctr l D d_42 yX10_wrong cX10_wrong 2 none [.ref (D.2.2 10 r0), .int (3 : Int32)] μ_34 (pV q_43) ∧ ∀ (μ_46 : gMem), q_43 μ_46 → pt_X10_planLine_1 l D d q Γ r0 x3_38 μ_46)))) : pt_X10_planLine_0 l D d q Γ r0 μ := by
  unfold pt_X10_planLine_0
  refine g_aload_n dX10_planLine_0 rfl ?_
  refine g_aload_n dX10_planLine_1 rfl ?_
  refine g_gfR fl_10_16 rfl hr0 dX10_planLine_2 ?_
  refine g_iconst (5 : Int32) dX10_planLine_5 rfl ?_
  refine g_aload_n dX10_planLine_6 rfl ?_
  refine g_iconst (0 : Int32) dX10_planLine_7 rfl ?_
  obtain ⟨d_1, q_2, hd_3, hc_4, h⟩ := h
  refine g_cV ca_X10_215 ob_10 hc_4 hd_3 (by decide) hr0 rfl rfl (by first | exact Nat.le_of_ble_eq_true rfl | decide) dX10_planLine_8 (kI (fun v_6 μ_5 hq_7 => ?_))
  have h := h v_6 μ_5 hq_7
  obtain ⟨d_8, q_9, hd_10, hc_11, h⟩ := h
  refine g_cV ca_X10_249 ob_10 hc_11 hd_10 (by decide) hr0 rfl rfl (by first | exact Nat.le_of_ble_eq_true rfl | decide) dX10_planLine_11 (kI (fun v_13 μ_12 hq_14 => ?_))
  have h := h v_13 μ_12 hq_14
  refine g_istore_n dX10_planLine_14 (by decide) (fun x1_15 ex1_15 => g_sub (lv' := [(0, .ref (D.2.2 10 r0)), (1, .int x1_15)]) [1, 0] rfl ?_)
  have h := h x1_15 ex1_15
  refine g_aload_n dX10_planLine_15 rfl ?_
  obtain ⟨d_16, q_17, hd_18, hc_19, h⟩ := h
  refine g_cV ca_X10_252 ob_10 hc_19 hd_18 (by decide) hr0 rfl rfl (by first | exact Nat.le_of_ble_eq_true rfl | decide) dX10_planLine_16 (kV (fun μ_20 hq_22 => ?_))
  have h := h μ_20 hq_22
  refine g_aload_n dX10_planLine_19 rfl ?_
  refine g_aload_n dX10_planLine_20 rfl ?_
  refine g_gfR fl_10_28 rfl hr0 dX10_planLine_21 ?_
  refine g_bipush (6 : Int32) dX10_planLine_24 rfl ?_
  refine g_aload_n dX10_planLine_26 rfl ?_
  refine g_iconst (1 : Int32) dX10_planLine_27 rfl ?_
  obtain ⟨d_23, q_24, hd_25, hc_26, h⟩ := h
  refine g_cV ca_X10_215 ob_10 hc_26 hd_25 (by decide) hr0 rfl rfl (by first | exact Nat.le_of_ble_eq_true rfl | decide) dX10_planLine_28 (kI (fun v_28 μ_27 hq_29 => ?_))
  have h := h v_28 μ_27 hq_29
  obtain ⟨d_30, q_31, hd_32, hc_33, h⟩ := h
  refine g_cV ca_X10_249 ob_10 hc_33 hd_32 (by decide) hr0 rfl rfl (by first | exact Nat.le_of_ble_eq_true rfl | decide) dX10_planLine_31 (kI (fun v_35 μ_34 hq_36 => ?_))
  have h := h v_35 μ_34 hq_36
  refine g_istore_n dX10_planLine_34 (by decide) (fun x2_37 ex2_37 => g_sub (lv' := [(0, .ref (D.2.2 10 r0)), (1, .int x1_15), (2, .int x2_37)]) [1, 2, 0] rfl ?_)
  have h := h x2_37 ex2_37
  refine g_bipush (30 : Int32) dX10_planLine_35 rfl ?_
  refine g_bipush (6 : Int32) dX10_planLine_37 rfl ?_
  refine g_iload_n dX10_planLine_39 rfl ?_
  refine g_imul dX10_planLine_40 ?_
  refine g_iadd dX10_planLine_41 ?_
  refine g_iload_n dX10_planLine_42 rfl ?_
  refine g_iadd dX10_planLine_43 ?_
  refine g_istore_n dX10_planLine_44 (by decide) (fun x3_38 ex3_38 => g_sub (lv' := [(0, .ref (D.2.2 10 r0)), (3, .int x3_38)]) [1, 0] rfl ?_)
  have h := h x3_38 ex3_38
  refine g_aload_n dX10_planLine_45 rfl ?_
  refine g_gfI fi_10_199 hr0 dX10_planLine_46 ?_
  refine g_if_ne (tgt := 66) dX10_planLine_49 (by decide) (fun c_39 => ?_) (fun c_39 => ?_)
  · have h := h.1 c_39
    exact g_sub [0, 1] rfl h
  · have h := h.2 c_39
    refine g_aload_n dX10_planLine_52 rfl ?_
    refine g_gfR fl_10_40 rfl hr0 dX10_planLine_53 ?_
    refine g_iload_n dX10_planLine_56 rfl ?_
    obtain ⟨j_40, hj_40, ej_40, h⟩ := h
    refine g_iald j_40 hr0 rfl hj_40 (by decide) ej_40 dX10_planLine_57 ?_
    refine g_if_le (tgt := 66) dX10_planLine_58 (by decide) (fun c_41 => ?_) (fun c_41 => ?_)
    · have h := h.1 c_41
      exact g_sub [0, 1] rfl h
    · have h := h.2 c_41
      refine g_aload_n dX10_planLine_61 rfl ?_
      refine g_iconst (3 : Int32) dX10_planLine_62 rfl ?_
      obtain ⟨d_42, q_43, hd_44, hc_45, h⟩ := h
      refine g_cV ca_X10_208 ob_10 hc_45 hd_44 (by decide) hr0 rfl rfl (by first | exact Nat.le_of_ble_eq_true rfl | decide) dX10_planLine_63 (kV (fun μ_46 hq_48 => ?_))
      have h := h μ_46 hq_48
      exact g_sub [0, 1] rfl h
set_option maxRecDepth 20000 in
set_option maxHeartbeats 4000000 in
theorem bl_X10_planLine_1 {l : Launch} {D : gD} {d : Nat} {q : gMem → Prop} {Γ : gC} {r0 : Nat} {x3 : Int32} {μ : gMem} (hr0 : r0 < 1) (h : ∃ (d_1 : Nat) (q_2 : gMem → Prop), d_1 < d ∧ Ctr l D d_1 yX10_goOn cX10_goOn 1 none [.ref (D.2.2 10 r0)] μ (pV q_2) ∧ ∀ (μ_5 : gMem), q_2 μ_5 → ∃ (d_8 : Nat) (q_9 : Int32 → gMem → Prop), d_8 < d ∧ Ctr l D d_8 yX10_numeral cX10_numeral 4 (some .int) [.ref (D.2.2 10 r0), .int (1 : Int32), .int (9 : Int32)] μ_5 (pI q_9) ∧ ∀ (v_13 : Int32) (μ_12 : gMem), q_9 v_13 μ_12 → ∀ x4_15 : Int32, x4_15 = v_13 → (((μ_12.1 10 r0 24) = 0) → ∃ j_17 : Nat, j_17 < 60 ∧ x3 = nI j_17 ∧ (∀ μ_18 : gMem, μ_18 = gsI μ_12 716 r0 j_17 x4_15 → ∃ (d_19 : Nat) (q_20 : Int32 → gMem → Prop), d_19 < d ∧ Ctr l D d_19 yX10_fresher cX10_fresher 2 (some .int) [.ref (D.2.2 10 r0), .int (2 : Int32)] μ_18 (pI q_20) ∧ ∀ (v_24 : Int32) (μ_23 : gMem), q_20 v_24 μ_23 → ∃ (d_26 : Nat) (q_27 : gMem → Prop), d_26 < d ∧ Ctr l D d_26 yX10_reads cX10_reads 3 none [.ref (D.2.2 10 r0), .int (2 : Int32), .int (v_24 + (1 : Int32))] μ_23 (pV q_27) ∧ ∀ (μ_30 : gMem), q_27 μ_30 → q μ_30)) ∧ ((¬ (μ_12.1 10 r0 24) = 0) → q μ_12)) : pt_X10_planLine_1 l D d q Γ r0 x3 μ := by
  unfold pt_X10_planLine_1
  refine g_aload_n dX10_planLine_66 rfl ?_
  obtain ⟨d_1, q_2, hd_3, hc_4, h⟩ := h
  refine g_cV ca_X10_252 ob_10 hc_4 hd_3 (by decide) hr0 rfl rfl (by first | exact Nat.le_of_ble_eq_true rfl | decide) dX10_planLine_67 (kV (fun μ_5 hq_7 => ?_))
  have h := h μ_5 hq_7
  refine g_aload_n dX10_planLine_70 rfl ?_
  refine g_iconst (1 : Int32) dX10_planLine_71 rfl ?_
  refine g_bipush (9 : Int32) dX10_planLine_72 rfl ?_
  obtain ⟨d_8, q_9, hd_10, hc_11, h⟩ := h
  refine g_cV ca_X10_229 ob_10 hc_11 hd_10 (by decide) hr0 rfl rfl (by first | exact Nat.le_of_ble_eq_true rfl | decide) dX10_planLine_74 (kI (fun v_13 μ_12 hq_14 => ?_))
  have h := h v_13 μ_12 hq_14
  refine g_istore dX10_planLine_77 (by decide) (fun x4_15 ex4_15 => g_sub (lv' := [(0, .ref (D.2.2 10 r0)), (3, .int x3), (4, .int x4_15)]) [1, 2, 0] rfl ?_)
  have h := h x4_15 ex4_15
  refine g_aload_n dX10_planLine_79 rfl ?_
  refine g_gfI fi_10_199 hr0 dX10_planLine_80 ?_
  refine g_if_eq (tgt := 87) dX10_planLine_83 (by decide) (fun c_16 => ?_) (fun c_16 => ?_)
  · have h := h.1 c_16
    refine g_aload_n dX10_planLine_87 rfl ?_
    refine g_gfR fl_10_40 rfl hr0 dX10_planLine_88 ?_
    refine g_iload_n dX10_planLine_91 rfl ?_
    refine g_iload dX10_planLine_92 rfl ?_
    obtain ⟨j_17, hj_17, ej_17, h⟩ := h
    refine g_iast j_17 hr0 rfl hj_17 (by decide) ej_17 dX10_planLine_94 ?_
    obtain ⟨μ_18, eμ_18⟩ : ∃ z : gMem, z = gsI μ_12 716 r0 j_17 x4_15 := ⟨_, rfl⟩
    have h := h μ_18 eμ_18
    refine g_mem eμ_18.symm ?_
    refine g_aload_n dX10_planLine_95 rfl ?_
    refine g_iconst (2 : Int32) dX10_planLine_96 rfl ?_
    refine g_aload_n dX10_planLine_97 rfl ?_
    refine g_iconst (2 : Int32) dX10_planLine_98 rfl ?_
    obtain ⟨d_19, q_20, hd_21, hc_22, h⟩ := h
    refine g_cV ca_X10_215 ob_10 hc_22 hd_21 (by decide) hr0 rfl rfl (by first | exact Nat.le_of_ble_eq_true rfl | decide) dX10_planLine_99 (kI (fun v_24 μ_23 hq_25 => ?_))
    have h := h v_24 μ_23 hq_25
    refine g_iconst (1 : Int32) dX10_planLine_102 rfl ?_
    refine g_iadd dX10_planLine_103 ?_
    obtain ⟨d_26, q_27, hd_28, hc_29, h⟩ := h
    refine g_cV ca_X10_233 ob_10 hc_29 hd_28 (by decide) hr0 rfl rfl (by first | exact Nat.le_of_ble_eq_true rfl | decide) dX10_planLine_104 (kV (fun μ_30 hq_32 => ?_))
    have h := h μ_30 hq_32
    exact g_vret dX10_planLine_107 rfl ⟨rfl, h⟩
  · have h := h.2 c_16
    exact g_vret dX10_planLine_86 rfl ⟨rfl, h⟩
theorem en_X10_planLine {l : Launch} {D : gD} {d : Nat} {q : gMem → Prop} {r0 : Nat} {μ : gMem} (h : ∀ Γ : gC, pt_X10_planLine_0 l D d q Γ r0 μ) : Ctr l D d yX10_planLine cX10_planLine 5 none [.ref (D.2.2 10 r0)] μ (pV q) :=
  Ctr_of rfl (by decide) (Nat.le_of_ble_eq_true rfl) (fun Γ => g_sub [0] rfl (h Γ))
