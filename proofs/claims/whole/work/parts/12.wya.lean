def pt_X10_thrown_0 (l : Launch) (D : gD) (d : Nat) (q : Int32 → gMem → Prop) (Γ : gC) (r0 : Nat) (μ : gMem) : Prop := G l D RX10 cX10_thrown 1 (some .int) d (pI q) Γ 0 [(0, .ref (D.2.2 10 r0))] [] μ
set_option maxRecDepth 20000 in
set_option maxHeartbeats 4000000 in
theorem bl_X10_thrown_0 {l : Launch} {D : gD} {d : Nat} {q : Int32 → gMem → Prop} {Γ : gC} {r0 : Nat} {μ : gMem} (hr0 : r0 < 1) (h : q (μ.1 10 r0 0) μ) : pt_X10_thrown_0 l D d q Γ r0 μ := by
  unfold pt_X10_thrown_0
  refine g_aload_n dX10_thrown_0 rfl ?_
  refine g_gfI fi_10_145 hr0 dX10_thrown_1 ?_
  exact g_iret dX10_thrown_4 rfl rfl ⟨_, rfl, h⟩
theorem en_X10_thrown {l : Launch} {D : gD} {d : Nat} {q : Int32 → gMem → Prop} {r0 : Nat} {μ : gMem} (h : ∀ Γ : gC, pt_X10_thrown_0 l D d q Γ r0 μ) : Ctr l D d yX10_thrown cX10_thrown 1 (some .int) [.ref (D.2.2 10 r0)] μ (pI q) :=
  Ctr_of rfl (by decide) (Nat.le_of_ble_eq_true rfl) (fun Γ => g_sub [0] rfl (h Γ))
def pt_X10_feed_0 (l : Launch) (D : gD) (d : Nat) (q : Int32 → gMem → Prop) (Γ : gC) (r0 : Nat) (x1 : Int32) (x2 : Int32) (x3 : Int32) (x4 : Int32) (x5 : Int32) (μ : gMem) : Prop := G l D RX10 cX10_feed 8 (some .int) d (pI q) Γ 0 [(0, .ref (D.2.2 10 r0)), (1, .int x1), (2, .int x2), (3, .int x3), (4, .int x4), (5, .int x5)] [] μ
def pt_X10_feed_1 (l : Launch) (D : gD) (d : Nat) (q : Int32 → gMem → Prop) (Γ : gC) (r0 : Nat) (x1 : Int32) (x2 : Int32) (x3 : Int32) (x4 : Int32) (x5 : Int32) (x6 : Int32) (μ : gMem) : Prop := G l D RX10 cX10_feed 8 (some .int) d (pI q) Γ 20 [(0, .ref (D.2.2 10 r0)), (1, .int x1), (2, .int x2), (3, .int x3), (4, .int x4), (5, .int x5), (6, .int x6)] [] μ
def pt_X10_feed_2 (l : Launch) (D : gD) (d : Nat) (q : Int32 → gMem → Prop) (Γ : gC) (r0 : Nat) (x1 : Int32) (x2 : Int32) (x3 : Int32) (x4 : Int32) (x5 : Int32) (x6 : Int32) (xs0 : Int32) (μ : gMem) : Prop := G l D RX10 cX10_feed 8 (some .int) d (pI q) Γ 73 [(0, .ref (D.2.2 10 r0)), (1, .int x1), (2, .int x2), (3, .int x3), (4, .int x4), (5, .int x5), (6, .int x6)] [.int xs0] μ
set_option maxRecDepth 20000 in
set_option maxHeartbeats 4000000 in
theorem bl_X10_feed_0 {l : Launch} {D : gD} {d : Nat} {q : Int32 → gMem → Prop} {Γ : gC} {r0 : Nat} {x1 : Int32} {x2 : Int32} {x3 : Int32} {x4 : Int32} {x5 : Int32} {μ : gMem} (hr0 : r0 < 1) (h : ∀ μ_1 : gMem, μ_1 = gsI μ 10 r0 0 (0 : Int32) → (((μ_1.1 10 r0 2) ≤ (680 : Int32)) → ∀ x6_3 : Int32, x6_3 = (0 : Int32) → pt_X10_feed_1 l D d q Γ r0 x1 x2 x3 x4 x5 x6_3 μ_1) ∧ ((¬ (μ_1.1 10 r0 2) ≤ (680 : Int32)) → q (-1 : Int32) μ_1)) : pt_X10_feed_0 l D d q Γ r0 x1 x2 x3 x4 x5 μ := by
  unfold pt_X10_feed_0
  refine g_aload_n dX10_feed_0 rfl ?_
  refine g_iconst (0 : Int32) dX10_feed_1 rfl ?_
  refine g_pfI fi_10_145 hr0 rfl rfl dX10_feed_2 ?_
  obtain ⟨μ_1, eμ_1⟩ : ∃ z : gMem, z = gsI μ 10 r0 0 (0 : Int32) := ⟨_, rfl⟩
  have h := h μ_1 eμ_1
  refine g_mem eμ_1.symm ?_
  refine g_aload_n dX10_feed_5 rfl ?_
  refine g_gfI fi_10_148 hr0 dX10_feed_6 ?_
  refine g_sipush (680 : Int32) dX10_feed_9 rfl ?_
  refine g_icmp_le (tgt := 17) dX10_feed_12 (by decide) (fun c_2 => ?_) (fun c_2 => ?_)
  · have h := h.1 c_2
    refine g_iconst (0 : Int32) dX10_feed_17 rfl ?_
    refine g_istore dX10_feed_18 (by decide) (fun x6_3 ex6_3 => g_sub (lv' := [(0, .ref (D.2.2 10 r0)), (1, .int x1), (2, .int x2), (3, .int x3), (4, .int x4), (5, .int x5), (6, .int x6_3)]) [1, 2, 3, 4, 5, 6, 0] rfl ?_)
    have h := h x6_3 ex6_3
    exact g_sub [0, 1, 2, 3, 4, 5, 6] rfl h
  · have h := h.2 c_2
    refine g_iconst (-1 : Int32) dX10_feed_15 rfl ?_
    exact g_iret dX10_feed_16 rfl rfl ⟨_, rfl, h⟩
set_option maxRecDepth 20000 in
set_option maxHeartbeats 4000000 in
theorem bl_X10_feed_1 {l : Launch} {D : gD} {d : Nat} {q : Int32 → gMem → Prop} {Γ : gC} {r0 : Nat} {x1 : Int32} {x2 : Int32} {x3 : Int32} {x4 : Int32} {x5 : Int32} {x6 : Int32} {μ : gMem} (hr0 : r0 < 1) (h : (((20 : Int32) ≤ x6) → ∀ μ_2 : gMem, μ_2 = gsI μ 10 r0 2 ((μ.1 10 r0 2) + (20 : Int32)) → q (μ_2.1 10 r0 2) μ_2) ∧ ((¬ (20 : Int32) ≤ x6) → (((4 : Int32) ≤ x6) → (((8 : Int32) ≤ x6) → (((12 : Int32) ≤ x6) → (((16 : Int32) ≤ x6) → pt_X10_feed_2 l D d q Γ r0 x1 x2 x3 x4 x5 x6 x5 μ) ∧ ((¬ (16 : Int32) ≤ x6) → pt_X10_feed_2 l D d q Γ r0 x1 x2 x3 x4 x5 x6 x4 μ)) ∧ ((¬ (12 : Int32) ≤ x6) → pt_X10_feed_2 l D d q Γ r0 x1 x2 x3 x4 x5 x6 x3 μ)) ∧ ((¬ (8 : Int32) ≤ x6) → pt_X10_feed_2 l D d q Γ r0 x1 x2 x3 x4 x5 x6 x2 μ)) ∧ ((¬ (4 : Int32) ≤ x6) → pt_X10_feed_2 l D d q Γ r0 x1 x2 x3 x4 x5 x6 x1 μ))) : pt_X10_feed_1 l D d q Γ r0 x1 x2 x3 x4 x5 x6 μ := by
  unfold pt_X10_feed_1
  refine g_iload dX10_feed_20 rfl ?_
  refine g_bipush (20 : Int32) dX10_feed_22 rfl ?_
  refine g_icmp_ge (tgt := 110) dX10_feed_24 (by decide) (fun c_1 => ?_) (fun c_1 => ?_)
  · have h := h.1 c_1
    refine g_aload_n dX10_feed_110 rfl ?_
    refine g_dup dX10_feed_111 rfl ?_
    refine g_gfI fi_10_148 hr0 dX10_feed_112 ?_
    refine g_bipush (20 : Int32) dX10_feed_115 rfl ?_
    refine g_iadd dX10_feed_117 ?_
    refine g_pfI fi_10_148 hr0 rfl rfl dX10_feed_118 ?_
    obtain ⟨μ_2, eμ_2⟩ : ∃ z : gMem, z = gsI μ 10 r0 2 ((μ.1 10 r0 2) + (20 : Int32)) := ⟨_, rfl⟩
    have h := h μ_2 eμ_2
    refine g_mem eμ_2.symm ?_
    refine g_aload_n dX10_feed_121 rfl ?_
    refine g_gfI fi_10_148 hr0 dX10_feed_122 ?_
    exact g_iret dX10_feed_125 rfl rfl ⟨_, rfl, h⟩
  · have h := h.2 c_1
    refine g_iload dX10_feed_27 rfl ?_
    refine g_iconst (4 : Int32) dX10_feed_29 rfl ?_
    refine g_icmp_ge (tgt := 37) dX10_feed_30 (by decide) (fun c_3 => ?_) (fun c_3 => ?_)
    · have h := h.1 c_3
      refine g_iload dX10_feed_37 rfl ?_
      refine g_bipush (8 : Int32) dX10_feed_39 rfl ?_
      refine g_icmp_ge (tgt := 48) dX10_feed_41 (by decide) (fun c_4 => ?_) (fun c_4 => ?_)
      · have h := h.1 c_4
        refine g_iload dX10_feed_48 rfl ?_
        refine g_bipush (12 : Int32) dX10_feed_50 rfl ?_
        refine g_icmp_ge (tgt := 59) dX10_feed_52 (by decide) (fun c_5 => ?_) (fun c_5 => ?_)
        · have h := h.1 c_5
          refine g_iload dX10_feed_59 rfl ?_
          refine g_bipush (16 : Int32) dX10_feed_61 rfl ?_
          refine g_icmp_ge (tgt := 71) dX10_feed_63 (by decide) (fun c_6 => ?_) (fun c_6 => ?_)
          · have h := h.1 c_6
            refine g_iload dX10_feed_71 rfl ?_
            exact g_sub [0, 1, 2, 3, 4, 5, 6] rfl h
          · have h := h.2 c_6
            refine g_iload dX10_feed_66 rfl ?_
            refine g_goto (tgt := 73) dX10_feed_68 (by decide) ?_
            exact g_sub [0, 1, 2, 3, 4, 5, 6] rfl h
        · have h := h.2 c_5
          refine g_iload_n dX10_feed_55 rfl ?_
          refine g_goto (tgt := 73) dX10_feed_56 (by decide) ?_
          exact g_sub [0, 1, 2, 3, 4, 5, 6] rfl h
      · have h := h.2 c_4
        refine g_iload_n dX10_feed_44 rfl ?_
        refine g_goto (tgt := 73) dX10_feed_45 (by decide) ?_
        exact g_sub [0, 1, 2, 3, 4, 5, 6] rfl h
    · have h := h.2 c_3
      refine g_iload_n dX10_feed_33 rfl ?_
      refine g_goto (tgt := 73) dX10_feed_34 (by decide) ?_
      exact g_sub [0, 1, 2, 3, 4, 5, 6] rfl h
set_option maxRecDepth 20000 in
set_option maxHeartbeats 4000000 in
theorem bl_X10_feed_2 {l : Launch} {D : gD} {d : Nat} {q : Int32 → gMem → Prop} {Γ : gC} {r0 : Nat} {x1 : Int32} {x2 : Int32} {x3 : Int32} {x4 : Int32} {x5 : Int32} {x6 : Int32} {xs0 : Int32} {μ : gMem} (hr0 : r0 < 1) (h : ∀ x7_1 : Int32, x7_1 = xs0 → ∃ j_2 : Nat, j_2 < 700 ∧ (μ.1 10 r0 2) + x6 = nI j_2 ∧ (∀ μ_3 : gMem, μ_3 = gsI μ 705 r0 j_2 ((x7_1 >>> (((24 : Int32) - ((8 : Int32) * (x6 - x6 / (4 : Int32) * (4 : Int32)))) &&& 31)) &&& (255 : Int32)) → ∀ x6_4 : Int32, x6_4 = x6 + (1 : Int32) → pt_X10_feed_1 l D d q Γ r0 x1 x2 x3 x4 x5 x6_4 μ_3)) : pt_X10_feed_2 l D d q Γ r0 x1 x2 x3 x4 x5 x6 xs0 μ := by
  unfold pt_X10_feed_2
  refine g_istore dX10_feed_73 (by decide) (fun x7_1 ex7_1 => g_sub (lv' := [(0, .ref (D.2.2 10 r0)), (1, .int x1), (2, .int x2), (3, .int x3), (4, .int x4), (5, .int x5), (6, .int x6), (7, .int x7_1)]) [1, 2, 3, 4, 5, 6, 7, 0] rfl ?_)
  have h := h x7_1 ex7_1
  refine g_aload_n dX10_feed_75 rfl ?_
  refine g_gfR fl_10_7 rfl hr0 dX10_feed_76 ?_
  refine g_aload_n dX10_feed_79 rfl ?_
  refine g_gfI fi_10_148 hr0 dX10_feed_80 ?_
  refine g_iload dX10_feed_83 rfl ?_
  refine g_iadd dX10_feed_85 ?_
  refine g_iload dX10_feed_86 rfl ?_
  refine g_bipush (24 : Int32) dX10_feed_88 rfl ?_
  refine g_bipush (8 : Int32) dX10_feed_90 rfl ?_
  refine g_iload dX10_feed_92 rfl ?_
  refine g_iconst (4 : Int32) dX10_feed_94 rfl ?_
  refine g_irem dX10_feed_95 (by decide) ?_
  refine g_imul dX10_feed_96 ?_
  refine g_isub dX10_feed_97 ?_
  refine g_ishr dX10_feed_98 ?_
  refine g_sipush (255 : Int32) dX10_feed_99 rfl ?_
  refine g_iand dX10_feed_102 ?_
  obtain ⟨j_2, hj_2, ej_2, h⟩ := h
  refine g_iast j_2 hr0 rfl hj_2 (by decide) ej_2 dX10_feed_103 ?_
  obtain ⟨μ_3, eμ_3⟩ : ∃ z : gMem, z = gsI μ 705 r0 j_2 ((x7_1 >>> (((24 : Int32) - ((8 : Int32) * (x6 - x6 / (4 : Int32) * (4 : Int32)))) &&& 31)) &&& (255 : Int32)) := ⟨_, rfl⟩
  have h := h μ_3 eμ_3
  refine g_mem eμ_3.symm ?_
  refine g_iinc dX10_feed_104 rfl (by decide) (fun x6_4 ex6_4 => g_sub (lv' := [(0, .ref (D.2.2 10 r0)), (1, .int x1), (2, .int x2), (3, .int x3), (4, .int x4), (5, .int x5), (6, .int x6_4)]) [1, 2, 3, 4, 5, 6, 0] rfl ?_)
  have h := h x6_4 ex6_4
  refine g_goto (tgt := 20) dX10_feed_107 (by decide) ?_
  exact g_sub [0, 1, 2, 3, 4, 5, 6] rfl h
theorem en_X10_feed {l : Launch} {D : gD} {d : Nat} {q : Int32 → gMem → Prop} {r0 : Nat} {x1 : Int32} {x2 : Int32} {x3 : Int32} {x4 : Int32} {x5 : Int32} {μ : gMem} (h : ∀ Γ : gC, pt_X10_feed_0 l D d q Γ r0 x1 x2 x3 x4 x5 μ) : Ctr l D d yX10_feed cX10_feed 8 (some .int) [.ref (D.2.2 10 r0), .int x1, .int x2, .int x3, .int x4, .int x5] μ (pI q) :=
  Ctr_of rfl (by decide) (Nat.le_of_ble_eq_true rfl) (fun Γ => g_sub [0, 1, 2, 3, 4, 5] rfl (h Γ))
def pt_X10_here_0 (l : Launch) (D : gD) (d : Nat) (q : Int32 → gMem → Prop) (Γ : gC) (r0 : Nat) (μ : gMem) : Prop := G l D RX10 cX10_here 1 (some .int) d (pI q) Γ 0 [(0, .ref (D.2.2 10 r0))] [] μ
set_option maxRecDepth 20000 in
set_option maxHeartbeats 4000000 in
theorem bl_X10_here_0 {l : Launch} {D : gD} {d : Nat} {q : Int32 → gMem → Prop} {Γ : gC} {r0 : Nat} {μ : gMem} (hr0 : r0 < 1) (h : (((μ.1 10 r0 19) ≤ (μ.1 10 r0 20)) → q (-1 : Int32) μ) ∧ ((¬ (μ.1 10 r0 19) ≤ (μ.1 10 r0 20)) → ∃ j_2 : Nat, j_2 < 700 ∧ μ.1 10 r0 20 = nI j_2 ∧ (q (μ.1 705 r0 j_2) μ))) : pt_X10_here_0 l D d q Γ r0 μ := by
  unfold pt_X10_here_0
  refine g_aload_n dX10_here_0 rfl ?_
  refine g_gfI fi_10_151 hr0 dX10_here_1 ?_
  refine g_aload_n dX10_here_4 rfl ?_
  refine g_gfI fi_10_154 hr0 dX10_here_5 ?_
  refine g_icmp_ge (tgt := 23) dX10_here_8 (by decide) (fun c_1 => ?_) (fun c_1 => ?_)
  · have h := h.1 c_1
    refine g_iconst (-1 : Int32) dX10_here_23 rfl ?_
    exact g_iret dX10_here_24 rfl rfl ⟨_, rfl, h⟩
  · have h := h.2 c_1
    refine g_aload_n dX10_here_11 rfl ?_
    refine g_gfR fl_10_7 rfl hr0 dX10_here_12 ?_
    refine g_aload_n dX10_here_15 rfl ?_
    refine g_gfI fi_10_151 hr0 dX10_here_16 ?_
    obtain ⟨j_2, hj_2, ej_2, h⟩ := h
    refine g_iald j_2 hr0 rfl hj_2 (by decide) ej_2 dX10_here_19 ?_
    refine g_goto (tgt := 24) dX10_here_20 (by decide) ?_
    exact g_iret dX10_here_24 rfl rfl ⟨_, rfl, h⟩
theorem en_X10_here {l : Launch} {D : gD} {d : Nat} {q : Int32 → gMem → Prop} {r0 : Nat} {μ : gMem} (h : ∀ Γ : gC, pt_X10_here_0 l D d q Γ r0 μ) : Ctr l D d yX10_here cX10_here 1 (some .int) [.ref (D.2.2 10 r0)] μ (pI q) :=
  Ctr_of rfl (by decide) (Nat.le_of_ble_eq_true rfl) (fun Γ => g_sub [0] rfl (h Γ))
def pt_X10_token_0 (l : Launch) (D : gD) (d : Nat) (q : gMem → Prop) (Γ : gC) (r0 : Nat) (μ : gMem) : Prop := G l D RX10 cX10_token 2 none d (pV q) Γ 0 [(0, .ref (D.2.2 10 r0))] [] μ
def pt_X10_token_1 (l : Launch) (D : gD) (d : Nat) (q : gMem → Prop) (Γ : gC) (r0 : Nat) (μ : gMem) : Prop := G l D RX10 cX10_token 2 none d (pV q) Γ 18 [(0, .ref (D.2.2 10 r0))] [] μ
def pt_X10_token_2 (l : Launch) (D : gD) (d : Nat) (q : gMem → Prop) (Γ : gC) (r0 : Nat) (μ : gMem) : Prop := G l D RX10 cX10_token 2 none d (pV q) Γ 64 [(0, .ref (D.2.2 10 r0))] [] μ
def pt_X10_token_3 (l : Launch) (D : gD) (d : Nat) (q : gMem → Prop) (Γ : gC) (r0 : Nat) (rs0 : Nat) (xs1 : Int32) (μ : gMem) : Prop := G l D RX10 cX10_token 2 none d (pV q) Γ 127 [(0, .ref (D.2.2 10 r0))] [.int xs1, .ref (D.2.2 10 rs0)] μ
def pt_X10_token_4 (l : Launch) (D : gD) (d : Nat) (q : gMem → Prop) (Γ : gC) (r0 : Nat) (μ : gMem) : Prop := G l D RX10 cX10_token 2 none d (pV q) Γ 162 [(0, .ref (D.2.2 10 r0))] [] μ
def pt_X10_token_5 (l : Launch) (D : gD) (d : Nat) (q : gMem → Prop) (Γ : gC) (r0 : Nat) (rs0 : Nat) (xs1 : Int32) (μ : gMem) : Prop := G l D RX10 cX10_token 2 none d (pV q) Γ 204 [(0, .ref (D.2.2 10 r0))] [.int xs1, .ref (D.2.2 10 rs0)] μ
set_option maxRecDepth 20000 in
set_option maxHeartbeats 4000000 in
theorem bl_X10_token_0 {l : Launch} {D : gD} {d : Nat} {q : gMem → Prop} {Γ : gC} {r0 : Nat} {μ : gMem} (hr0 : r0 < 1) (h : ∃ (d_1 : Nat) (q_2 : Int32 → gMem → Prop), d_1 < d ∧ Ctr l D d_1 yX10_here cX10_here 1 (some .int) [.ref (D.2.2 10 r0)] μ (pI q_2) ∧ ∀ (v_6 : Int32) (μ_5 : gMem), q_2 v_6 μ_5 → ((v_6 = (10 : Int32)) → pt_X10_token_1 l D d q Γ r0 μ_5) ∧ ((¬ v_6 = (10 : Int32)) → ∃ (d_9 : Nat) (q_10 : Int32 → gMem → Prop), d_9 < d ∧ Ctr l D d_9 yX10_here cX10_here 1 (some .int) [.ref (D.2.2 10 r0)] μ_5 (pI q_10) ∧ ∀ (v_14 : Int32) (μ_13 : gMem), q_10 v_14 μ_13 → ((¬ v_14 = (32 : Int32)) → ∀ μ_17 : gMem, μ_17 = gsI μ_13 10 r0 21 (μ_13.1 10 r0 20) → ∃ (d_18 : Nat) (q_19 : Int32 → gMem → Prop), d_18 < d ∧ Ctr l D d_18 yX10_here cX10_here 1 (some .int) [.ref (D.2.2 10 r0)] μ_17 (pI q_19) ∧ ∀ (v_23 : Int32) (μ_22 : gMem), q_19 v_23 μ_22 → ∀ x1_25 : Int32, x1_25 = v_23 → ((¬ x1_25 = (-1 : Int32)) → (0 < d) ∧ ((((iw x1_25 (97 : Int32) (122 : Int32)) = 0) → (0 < d) ∧ ((((iw x1_25 (48 : Int32) (57 : Int32)) = 0) → ∃ (d_37 : Nat) (q_38 : gMem → Prop), d_37 < d ∧ Ctr l D d_37 yX10_sign cX10_sign 2 none [.ref (D.2.2 10 r0), .int x1_25] μ_22 (pV q_38) ∧ ∀ (μ_41 : gMem), q_38 μ_41 → q μ_41) ∧ ((¬ (iw x1_25 (48 : Int32) (57 : Int32)) = 0) → ∀ μ_44 : gMem, μ_44 = gsI μ_22 10 r0 22 (2 : Int32) → ∀ μ_45 : gMem, μ_45 = gsI μ_44 10 r0 23 (0 : Int32) → pt_X10_token_4 l D d q Γ r0 μ_45))) ∧ ((¬ (iw x1_25 (97 : Int32) (122 : Int32)) = 0) → pt_X10_token_2 l D d q Γ r0 μ_22))) ∧ ((x1_25 = (-1 : Int32)) → ∀ μ_46 : gMem, μ_46 = gsI μ_22 10 r0 22 (4 : Int32) → q μ_46)) ∧ ((v_14 = (32 : Int32)) → pt_X10_token_1 l D d q Γ r0 μ_13))) : pt_X10_token_0 l D d q Γ r0 μ := by
  unfold pt_X10_token_0
  refine g_aload_n dX10_token_0 rfl ?_
  obtain ⟨d_1, q_2, hd_3, hc_4, h⟩ := h
  refine g_cV ca_X10_157 ob_10 hc_4 hd_3 (by decide) hr0 rfl rfl (by first | exact Nat.le_of_ble_eq_true rfl | decide) dX10_token_1 (kI (fun v_6 μ_5 hq_7 => ?_))
  have h := h v_6 μ_5 hq_7
  refine g_bipush (10 : Int32) dX10_token_4 rfl ?_
  refine g_icmp_eq (tgt := 18) dX10_token_6 (by decide) (fun c_8 => ?_) (fun c_8 => ?_)
  · have h := h.1 c_8
    exact g_sub [0] rfl h
  · have h := h.2 c_8
    refine g_aload_n dX10_token_9 rfl ?_
    obtain ⟨d_9, q_10, hd_11, hc_12, h⟩ := h
    refine g_cV ca_X10_157 ob_10 hc_12 hd_11 (by decide) hr0 rfl rfl (by first | exact Nat.le_of_ble_eq_true rfl | decide) dX10_token_10 (kI (fun v_14 μ_13 hq_15 => ?_))
    have h := h v_14 μ_13 hq_15
    refine g_bipush (32 : Int32) dX10_token_13 rfl ?_
    refine g_icmp_ne (tgt := 31) dX10_token_15 (by decide) (fun c_16 => ?_) (fun c_16 => ?_)
    · have h := h.1 c_16
      refine g_aload_n dX10_token_31 rfl ?_
      refine g_aload_n dX10_token_32 rfl ?_
      refine g_gfI fi_10_151 hr0 dX10_token_33 ?_
      refine g_pfI fi_10_161 hr0 rfl rfl dX10_token_36 ?_
      obtain ⟨μ_17, eμ_17⟩ : ∃ z : gMem, z = gsI μ_13 10 r0 21 (μ_13.1 10 r0 20) := ⟨_, rfl⟩
      have h := h μ_17 eμ_17
      refine g_mem eμ_17.symm ?_
      refine g_aload_n dX10_token_39 rfl ?_
      obtain ⟨d_18, q_19, hd_20, hc_21, h⟩ := h
      refine g_cV ca_X10_157 ob_10 hc_21 hd_20 (by decide) hr0 rfl rfl (by first | exact Nat.le_of_ble_eq_true rfl | decide) dX10_token_40 (kI (fun v_23 μ_22 hq_24 => ?_))
      have h := h v_23 μ_22 hq_24
      refine g_istore_n dX10_token_43 (by decide) (fun x1_25 ex1_25 => g_sub (lv' := [(0, .ref (D.2.2 10 r0)), (1, .int x1_25)]) [1, 0] rfl ?_)
      have h := h x1_25 ex1_25
      refine g_iload_n dX10_token_44 rfl ?_
      refine g_iconst (-1 : Int32) dX10_token_45 rfl ?_
      refine g_icmp_ne (tgt := 57) dX10_token_46 (by decide) (fun c_26 => ?_) (fun c_26 => ?_)
      · have h := h.1 c_26
        refine g_iload_n dX10_token_57 rfl ?_
        obtain ⟨hd_27, h⟩ := h
        refine g_callS ca_X10_167 (c_X10_isSmall (d := 0) (Nat.le_refl _) ) hd_27 (by decide) rfl rfl (by first | exact Nat.le_of_ble_eq_true rfl | decide) dX10_token_58 (kI (fun v_28 μ_29 hq_30 => ?_))
        obtain ⟨ev_28, eμ_29⟩ := hq_30
        subst ev_28
        refine g_mem eμ_29 ?_
        refine g_if_eq (tgt := 145) dX10_token_61 (by decide) (fun c_31 => ?_) (fun c_31 => ?_)
        · have h := h.1 c_31
          refine g_iload_n dX10_token_145 rfl ?_
          obtain ⟨hd_32, h⟩ := h
          refine g_callS ca_X10_180 (c_X10_isDigit (d := 0) (Nat.le_refl _) ) hd_32 (by decide) rfl rfl (by first | exact Nat.le_of_ble_eq_true rfl | decide) dX10_token_146 (kI (fun v_33 μ_34 hq_35 => ?_))
          obtain ⟨ev_33, eμ_34⟩ := hq_35
          subst ev_33
          refine g_mem eμ_34 ?_
          refine g_if_eq (tgt := 220) dX10_token_149 (by decide) (fun c_36 => ?_) (fun c_36 => ?_)
          · have h := h.1 c_36
            refine g_aload_n dX10_token_220 rfl ?_
            refine g_iload_n dX10_token_221 rfl ?_
            obtain ⟨d_37, q_38, hd_39, hc_40, h⟩ := h
            refine g_cV ca_X10_184 ob_10 hc_40 hd_39 (by decide) hr0 rfl rfl (by first | exact Nat.le_of_ble_eq_true rfl | decide) dX10_token_222 (kV (fun μ_41 hq_43 => ?_))
            have h := h μ_41 hq_43
            exact g_vret dX10_token_225 rfl ⟨rfl, h⟩
          · have h := h.2 c_36
            refine g_aload_n dX10_token_152 rfl ?_
            refine g_iconst (2 : Int32) dX10_token_153 rfl ?_
            refine g_pfI fi_10_164 hr0 rfl rfl dX10_token_154 ?_
            obtain ⟨μ_44, eμ_44⟩ : ∃ z : gMem, z = gsI μ_22 10 r0 22 (2 : Int32) := ⟨_, rfl⟩
            have h := h μ_44 eμ_44
            refine g_mem eμ_44.symm ?_
            refine g_aload_n dX10_token_157 rfl ?_
            refine g_iconst (0 : Int32) dX10_token_158 rfl ?_
            refine g_pfI fi_10_174 hr0 rfl rfl dX10_token_159 ?_
            obtain ⟨μ_45, eμ_45⟩ : ∃ z : gMem, z = gsI μ_44 10 r0 23 (0 : Int32) := ⟨_, rfl⟩
            have h := h μ_45 eμ_45
            refine g_mem eμ_45.symm ?_
            exact g_sub [0] rfl h
        · have h := h.2 c_31
          exact g_sub [0] rfl h
      · have h := h.2 c_26
        refine g_aload_n dX10_token_49 rfl ?_
        refine g_iconst (4 : Int32) dX10_token_50 rfl ?_
        refine g_pfI fi_10_164 hr0 rfl rfl dX10_token_51 ?_
        obtain ⟨μ_46, eμ_46⟩ : ∃ z : gMem, z = gsI μ_22 10 r0 22 (4 : Int32) := ⟨_, rfl⟩
        have h := h μ_46 eμ_46
        refine g_mem eμ_46.symm ?_
        refine g_goto (tgt := 225) dX10_token_54 (by decide) ?_
        exact g_vret dX10_token_225 rfl ⟨rfl, h⟩
    · have h := h.2 c_16
      exact g_sub [0] rfl h
set_option maxRecDepth 20000 in
set_option maxHeartbeats 4000000 in
theorem bl_X10_token_1 {l : Launch} {D : gD} {d : Nat} {q : gMem → Prop} {Γ : gC} {r0 : Nat} {μ : gMem} (hr0 : r0 < 1) (h : ∀ μ_1 : gMem, μ_1 = gsI μ 10 r0 20 ((μ.1 10 r0 20) + (1 : Int32)) → pt_X10_token_0 l D d q Γ r0 μ_1) : pt_X10_token_1 l D d q Γ r0 μ := by
  unfold pt_X10_token_1
  refine g_aload_n dX10_token_18 rfl ?_
  refine g_dup dX10_token_19 rfl ?_
  refine g_gfI fi_10_151 hr0 dX10_token_20 ?_
  refine g_iconst (1 : Int32) dX10_token_23 rfl ?_
  refine g_iadd dX10_token_24 ?_
  refine g_pfI fi_10_151 hr0 rfl rfl dX10_token_25 ?_
  obtain ⟨μ_1, eμ_1⟩ : ∃ z : gMem, z = gsI μ 10 r0 20 ((μ.1 10 r0 20) + (1 : Int32)) := ⟨_, rfl⟩
  have h := h μ_1 eμ_1
  refine g_mem eμ_1.symm ?_
  refine g_goto (tgt := 0) dX10_token_28 (by decide) ?_
  exact g_sub [0] rfl h
set_option maxRecDepth 20000 in
set_option maxHeartbeats 4000000 in
theorem bl_X10_token_2 {l : Launch} {D : gD} {d : Nat} {q : gMem → Prop} {Γ : gC} {r0 : Nat} {μ : gMem} (hr0 : r0 < 1) (h : ∃ (d_1 : Nat) (q_2 : Int32 → gMem → Prop), d_1 < d ∧ Ctr l D d_1 yX10_here cX10_here 1 (some .int) [.ref (D.2.2 10 r0)] μ (pI q_2) ∧ ∀ (v_6 : Int32) (μ_5 : gMem), q_2 v_6 μ_5 → (0 < d) ∧ ((((iw v_6 (97 : Int32) (122 : Int32)) = 0) → ∃ (d_13 : Nat) (q_14 : Int32 → gMem → Prop), d_13 < d ∧ Ctr l D d_13 yX10_word cX10_word 4 (some .int) [.ref (D.2.2 10 r0)] μ_5 (pI q_14) ∧ ∀ (v_18 : Int32) (μ_17 : gMem), q_14 v_18 μ_17 → ∀ μ_20 : gMem, μ_20 = gsI μ_17 10 r0 23 v_18 → (((μ_20.1 10 r0 23) = (-1 : Int32)) → ((((μ_20.1 10 r0 20) - (μ_20.1 10 r0 21)) ≤ (6 : Int32)) → pt_X10_token_3 l D d q Γ r0 r0 (1 : Int32) μ_20) ∧ ((¬ ((μ_20.1 10 r0 20) - (μ_20.1 10 r0 21)) ≤ (6 : Int32)) → pt_X10_token_3 l D d q Γ r0 r0 (5 : Int32) μ_20)) ∧ ((¬ (μ_20.1 10 r0 23) = (-1 : Int32)) → pt_X10_token_3 l D d q Γ r0 r0 (0 : Int32) μ_20)) ∧ ((¬ (iw v_6 (97 : Int32) (122 : Int32)) = 0) → ∀ μ_23 : gMem, μ_23 = gsI μ_5 10 r0 20 ((μ_5.1 10 r0 20) + (1 : Int32)) → pt_X10_token_2 l D d q Γ r0 μ_23))) : pt_X10_token_2 l D d q Γ r0 μ := by
  unfold pt_X10_token_2
  refine g_aload_n dX10_token_64 rfl ?_
  obtain ⟨d_1, q_2, hd_3, hc_4, h⟩ := h
  refine g_cV ca_X10_157 ob_10 hc_4 hd_3 (by decide) hr0 rfl rfl (by first | exact Nat.le_of_ble_eq_true rfl | decide) dX10_token_65 (kI (fun v_6 μ_5 hq_7 => ?_))
  have h := h v_6 μ_5 hq_7
  obtain ⟨hd_8, h⟩ := h
  refine g_callS ca_X10_167 (c_X10_isSmall (d := 0) (Nat.le_refl _) ) hd_8 (by decide) rfl rfl (by first | exact Nat.le_of_ble_eq_true rfl | decide) dX10_token_68 (kI (fun v_9 μ_10 hq_11 => ?_))
  obtain ⟨ev_9, eμ_10⟩ := hq_11
  subst ev_9
  refine g_mem eμ_10 ?_
  refine g_if_eq (tgt := 87) dX10_token_71 (by decide) (fun c_12 => ?_) (fun c_12 => ?_)
  · have h := h.1 c_12
    refine g_aload_n dX10_token_87 rfl ?_
    refine g_aload_n dX10_token_88 rfl ?_
    obtain ⟨d_13, q_14, hd_15, hc_16, h⟩ := h
    refine g_cV ca_X10_171 ob_10 hc_16 hd_15 (by decide) hr0 rfl rfl (by first | exact Nat.le_of_ble_eq_true rfl | decide) dX10_token_89 (kI (fun v_18 μ_17 hq_19 => ?_))
    have h := h v_18 μ_17 hq_19
    refine g_pfI fi_10_174 hr0 rfl rfl dX10_token_92 ?_
    obtain ⟨μ_20, eμ_20⟩ : ∃ z : gMem, z = gsI μ_17 10 r0 23 v_18 := ⟨_, rfl⟩
    have h := h μ_20 eμ_20
    refine g_mem eμ_20.symm ?_
    refine g_aload_n dX10_token_95 rfl ?_
    refine g_aload_n dX10_token_96 rfl ?_
    refine g_gfI fi_10_174 hr0 dX10_token_97 ?_
    refine g_iconst (-1 : Int32) dX10_token_100 rfl ?_
    refine g_icmp_eq (tgt := 108) dX10_token_101 (by decide) (fun c_21 => ?_) (fun c_21 => ?_)
    · have h := h.1 c_21
      refine g_aload_n dX10_token_108 rfl ?_
      refine g_gfI fi_10_151 hr0 dX10_token_109 ?_
      refine g_aload_n dX10_token_112 rfl ?_
      refine g_gfI fi_10_161 hr0 dX10_token_113 ?_
      refine g_isub dX10_token_116 ?_
      refine g_bipush (6 : Int32) dX10_token_117 rfl ?_
      refine g_icmp_le (tgt := 126) dX10_token_119 (by decide) (fun c_22 => ?_) (fun c_22 => ?_)
      · have h := h.1 c_22
        refine g_iconst (1 : Int32) dX10_token_126 rfl ?_
        exact g_sub [0] rfl h
      · have h := h.2 c_22
        refine g_iconst (5 : Int32) dX10_token_122 rfl ?_
        refine g_goto (tgt := 127) dX10_token_123 (by decide) ?_
        exact g_sub [0] rfl h
    · have h := h.2 c_21
      refine g_iconst (0 : Int32) dX10_token_104 rfl ?_
      refine g_goto (tgt := 127) dX10_token_105 (by decide) ?_
      exact g_sub [0] rfl h
  · have h := h.2 c_12
    refine g_aload_n dX10_token_74 rfl ?_
    refine g_dup dX10_token_75 rfl ?_
    refine g_gfI fi_10_151 hr0 dX10_token_76 ?_
    refine g_iconst (1 : Int32) dX10_token_79 rfl ?_
    refine g_iadd dX10_token_80 ?_
    refine g_pfI fi_10_151 hr0 rfl rfl dX10_token_81 ?_
    obtain ⟨μ_23, eμ_23⟩ : ∃ z : gMem, z = gsI μ_5 10 r0 20 ((μ_5.1 10 r0 20) + (1 : Int32)) := ⟨_, rfl⟩
    have h := h μ_23 eμ_23
    refine g_mem eμ_23.symm ?_
    refine g_goto (tgt := 64) dX10_token_84 (by decide) ?_
    exact g_sub [0] rfl h
set_option maxRecDepth 20000 in
set_option maxHeartbeats 4000000 in
theorem bl_X10_token_3 {l : Launch} {D : gD} {d : Nat} {q : gMem → Prop} {Γ : gC} {r0 : Nat} {rs0 : Nat} {xs1 : Int32} {μ : gMem} (hr0 : r0 < 1) (hrs0 : rs0 < 1) (h : ∀ μ_1 : gMem, μ_1 = gsI μ 10 rs0 22 xs1 → ((¬ (μ_1.1 10 r0 22) = (1 : Int32)) → q μ_1) ∧ (((μ_1.1 10 r0 22) = (1 : Int32)) → ∃ (d_3 : Nat) (q_4 : gMem → Prop), d_3 < d ∧ Ctr l D d_3 yX10_name cX10_name 2 none [.ref (D.2.2 10 r0)] μ_1 (pV q_4) ∧ ∀ (μ_7 : gMem), q_4 μ_7 → q μ_7)) : pt_X10_token_3 l D d q Γ r0 rs0 xs1 μ := by
  unfold pt_X10_token_3
  refine g_pfI fi_10_164 hrs0 rfl rfl dX10_token_127 ?_
  obtain ⟨μ_1, eμ_1⟩ : ∃ z : gMem, z = gsI μ 10 rs0 22 xs1 := ⟨_, rfl⟩
  have h := h μ_1 eμ_1
  refine g_mem eμ_1.symm ?_
  refine g_aload_n dX10_token_130 rfl ?_
  refine g_gfI fi_10_164 hr0 dX10_token_131 ?_
  refine g_iconst (1 : Int32) dX10_token_134 rfl ?_
  refine g_icmp_ne (tgt := 225) dX10_token_135 (by decide) (fun c_2 => ?_) (fun c_2 => ?_)
  · have h := h.1 c_2
    exact g_vret dX10_token_225 rfl ⟨rfl, h⟩
  · have h := h.2 c_2
    refine g_aload_n dX10_token_138 rfl ?_
    obtain ⟨d_3, q_4, hd_5, hc_6, h⟩ := h
    refine g_cV ca_X10_177 ob_10 hc_6 hd_5 (by decide) hr0 rfl rfl (by first | exact Nat.le_of_ble_eq_true rfl | decide) dX10_token_139 (kV (fun μ_7 hq_9 => ?_))
    have h := h μ_7 hq_9
    refine g_goto (tgt := 225) dX10_token_142 (by decide) ?_
    exact g_vret dX10_token_225 rfl ⟨rfl, h⟩
set_option maxRecDepth 20000 in
set_option maxHeartbeats 4000000 in
theorem bl_X10_token_4 {l : Launch} {D : gD} {d : Nat} {q : gMem → Prop} {Γ : gC} {r0 : Nat} {μ : gMem} (hr0 : r0 < 1) (h : ∃ (d_1 : Nat) (q_2 : Int32 → gMem → Prop), d_1 < d ∧ Ctr l D d_1 yX10_here cX10_here 1 (some .int) [.ref (D.2.2 10 r0)] μ (pI q_2) ∧ ∀ (v_6 : Int32) (μ_5 : gMem), q_2 v_6 μ_5 → (0 < d) ∧ ((((iw v_6 (48 : Int32) (57 : Int32)) = 0) → q μ_5) ∧ ((¬ (iw v_6 (48 : Int32) (57 : Int32)) = 0) → (((μ_5.1 10 r0 23) ≤ (99999 : Int32)) → ∃ (d_14 : Nat) (q_15 : Int32 → gMem → Prop), d_14 < d ∧ Ctr l D d_14 yX10_here cX10_here 1 (some .int) [.ref (D.2.2 10 r0)] μ_5 (pI q_15) ∧ ∀ (v_19 : Int32) (μ_18 : gMem), q_15 v_19 μ_18 → pt_X10_token_5 l D d q Γ r0 r0 ((((10 : Int32) * (μ_5.1 10 r0 23)) + v_19) - (48 : Int32)) μ_18) ∧ ((¬ (μ_5.1 10 r0 23) ≤ (99999 : Int32)) → pt_X10_token_5 l D d q Γ r0 r0 (μ_5.1 10 r0 23) μ_5)))) : pt_X10_token_4 l D d q Γ r0 μ := by
  unfold pt_X10_token_4
  refine g_aload_n dX10_token_162 rfl ?_
  obtain ⟨d_1, q_2, hd_3, hc_4, h⟩ := h
  refine g_cV ca_X10_157 ob_10 hc_4 hd_3 (by decide) hr0 rfl rfl (by first | exact Nat.le_of_ble_eq_true rfl | decide) dX10_token_163 (kI (fun v_6 μ_5 hq_7 => ?_))
  have h := h v_6 μ_5 hq_7
  obtain ⟨hd_8, h⟩ := h
  refine g_callS ca_X10_180 (c_X10_isDigit (d := 0) (Nat.le_refl _) ) hd_8 (by decide) rfl rfl (by first | exact Nat.le_of_ble_eq_true rfl | decide) dX10_token_166 (kI (fun v_9 μ_10 hq_11 => ?_))
  obtain ⟨ev_9, eμ_10⟩ := hq_11
  subst ev_9
  refine g_mem eμ_10 ?_
  refine g_if_eq (tgt := 225) dX10_token_169 (by decide) (fun c_12 => ?_) (fun c_12 => ?_)
  · have h := h.1 c_12
    exact g_vret dX10_token_225 rfl ⟨rfl, h⟩
  · have h := h.2 c_12
    refine g_aload_n dX10_token_172 rfl ?_
    refine g_aload_n dX10_token_173 rfl ?_
    refine g_gfI fi_10_174 hr0 dX10_token_174 ?_
    refine g_ldc kc_X10_183 dX10_token_177 ?_
    refine g_icmp_le (tgt := 189) dX10_token_179 (by decide) (fun c_13 => ?_) (fun c_13 => ?_)
    · have h := h.1 c_13
      refine g_bipush (10 : Int32) dX10_token_189 rfl ?_
      refine g_aload_n dX10_token_191 rfl ?_
      refine g_gfI fi_10_174 hr0 dX10_token_192 ?_
      refine g_imul dX10_token_195 ?_
      refine g_aload_n dX10_token_196 rfl ?_
      obtain ⟨d_14, q_15, hd_16, hc_17, h⟩ := h
      refine g_cV ca_X10_157 ob_10 hc_17 hd_16 (by decide) hr0 rfl rfl (by first | exact Nat.le_of_ble_eq_true rfl | decide) dX10_token_197 (kI (fun v_19 μ_18 hq_20 => ?_))
      have h := h v_19 μ_18 hq_20
      refine g_iadd dX10_token_200 ?_
      refine g_bipush (48 : Int32) dX10_token_201 rfl ?_
      refine g_isub dX10_token_203 ?_
      exact g_sub [0] rfl h
    · have h := h.2 c_13
      refine g_aload_n dX10_token_182 rfl ?_
      refine g_gfI fi_10_174 hr0 dX10_token_183 ?_
      refine g_goto (tgt := 204) dX10_token_186 (by decide) ?_
      exact g_sub [0] rfl h
set_option maxRecDepth 20000 in
set_option maxHeartbeats 4000000 in
theorem bl_X10_token_5 {l : Launch} {D : gD} {d : Nat} {q : gMem → Prop} {Γ : gC} {r0 : Nat} {rs0 : Nat} {xs1 : Int32} {μ : gMem} (hr0 : r0 < 1) (hrs0 : rs0 < 1) (h : ∀ μ_1 : gMem, μ_1 = gsI μ 10 rs0 23 xs1 → ∀ μ_2 : gMem, μ_2 = gsI μ_1 10 r0 20 ((μ_1.1 10 r0 20) + (1 : Int32)) → pt_X10_token_4 l D d q Γ r0 μ_2) : pt_X10_token_5 l D d q Γ r0 rs0 xs1 μ := by
  unfold pt_X10_token_5
  refine g_pfI fi_10_174 hrs0 rfl rfl dX10_token_204 ?_
  obtain ⟨μ_1, eμ_1⟩ : ∃ z : gMem, z = gsI μ 10 rs0 23 xs1 := ⟨_, rfl⟩
  have h := h μ_1 eμ_1
  refine g_mem eμ_1.symm ?_
  refine g_aload_n dX10_token_207 rfl ?_
  refine g_dup dX10_token_208 rfl ?_
  refine g_gfI fi_10_151 hr0 dX10_token_209 ?_
  refine g_iconst (1 : Int32) dX10_token_212 rfl ?_
  refine g_iadd dX10_token_213 ?_
  refine g_pfI fi_10_151 hr0 rfl rfl dX10_token_214 ?_
  obtain ⟨μ_2, eμ_2⟩ : ∃ z : gMem, z = gsI μ_1 10 r0 20 ((μ_1.1 10 r0 20) + (1 : Int32)) := ⟨_, rfl⟩
  have h := h μ_2 eμ_2
  refine g_mem eμ_2.symm ?_
  refine g_goto (tgt := 162) dX10_token_217 (by decide) ?_
  exact g_sub [0] rfl h
theorem en_X10_token {l : Launch} {D : gD} {d : Nat} {q : gMem → Prop} {r0 : Nat} {μ : gMem} (h : ∀ Γ : gC, pt_X10_token_0 l D d q Γ r0 μ) : Ctr l D d yX10_token cX10_token 2 none [.ref (D.2.2 10 r0)] μ (pV q) :=
  Ctr_of rfl (by decide) (Nat.le_of_ble_eq_true rfl) (fun Γ => g_sub [0] rfl (h Γ))
def pt_X10_sign_0 (l : Launch) (D : gD) (d : Nat) (q : gMem → Prop) (Γ : gC) (r0 : Nat) (x1 : Int32) (μ : gMem) : Prop := G l D RX10 cX10_sign 2 none d (pV q) Γ 0 [(0, .ref (D.2.2 10 r0)), (1, .int x1)] [] μ
def pt_X10_sign_1 (l : Launch) (D : gD) (d : Nat) (q : gMem → Prop) (Γ : gC) (r0 : Nat) (x1 : Int32) (rs0 : Nat) (μ : gMem) : Prop := G l D RX10 cX10_sign 2 none d (pV q) Γ 71 [(0, .ref (D.2.2 10 r0)), (1, .int x1)] [.ref (D.2.2 10 rs0)] μ
def pt_X10_sign_2 (l : Launch) (D : gD) (d : Nat) (q : gMem → Prop) (Γ : gC) (r0 : Nat) (x1 : Int32) (rs0 : Nat) (xs1 : Int32) (μ : gMem) : Prop := G l D RX10 cX10_sign 2 none d (pV q) Γ 76 [(0, .ref (D.2.2 10 r0)), (1, .int x1)] [.int xs1, .ref (D.2.2 10 rs0)] μ
def pt_X10_sign_3 (l : Launch) (D : gD) (d : Nat) (q : gMem → Prop) (Γ : gC) (r0 : Nat) (x1 : Int32) (μ : gMem) : Prop := G l D RX10 cX10_sign 2 none d (pV q) Γ 106 [(0, .ref (D.2.2 10 r0)), (1, .int x1)] [] μ
def pt_X10_sign_4 (l : Launch) (D : gD) (d : Nat) (q : gMem → Prop) (Γ : gC) (r0 : Nat) (x1 : Int32) (μ : gMem) : Prop := G l D RX10 cX10_sign 2 none d (pV q) Γ 128 [(0, .ref (D.2.2 10 r0)), (1, .int x1)] [] μ
def pt_X10_sign_5 (l : Launch) (D : gD) (d : Nat) (q : gMem → Prop) (Γ : gC) (r0 : Nat) (μ : gMem) : Prop := G l D RX10 cX10_sign 2 none d (pV q) Γ 150 [(0, .ref (D.2.2 10 r0))] [] μ
set_option maxRecDepth 20000 in
set_option maxHeartbeats 4000000 in
theorem bl_X10_sign_0 {l : Launch} {D : gD} {d : Nat} {q : gMem → Prop} {Γ : gC} {r0 : Nat} {x1 : Int32} {μ : gMem} (hr0 : r0 < 1) (h : ∀ μ_1 : gMem, μ_1 = gsI μ 10 r0 20 ((μ.1 10 r0 20) + (1 : Int32)) → ((x1 = (59 : Int32)) → pt_X10_sign_1 l D d q Γ r0 x1 r0 μ_1) ∧ ((¬ x1 = (59 : Int32)) → ((x1 = (40 : Int32)) → pt_X10_sign_1 l D d q Γ r0 x1 r0 μ_1) ∧ ((¬ x1 = (40 : Int32)) → ((x1 = (41 : Int32)) → pt_X10_sign_1 l D d q Γ r0 x1 r0 μ_1) ∧ ((¬ x1 = (41 : Int32)) → ((x1 = (43 : Int32)) → pt_X10_sign_1 l D d q Γ r0 x1 r0 μ_1) ∧ ((¬ x1 = (43 : Int32)) → ((x1 = (45 : Int32)) → pt_X10_sign_1 l D d q Γ r0 x1 r0 μ_1) ∧ ((¬ x1 = (45 : Int32)) → ((x1 = (42 : Int32)) → pt_X10_sign_1 l D d q Γ r0 x1 r0 μ_1) ∧ ((¬ x1 = (42 : Int32)) → ((x1 = (47 : Int32)) → pt_X10_sign_1 l D d q Γ r0 x1 r0 μ_1) ∧ ((¬ x1 = (47 : Int32)) → ((x1 = (60 : Int32)) → pt_X10_sign_1 l D d q Γ r0 x1 r0 μ_1) ∧ ((¬ x1 = (60 : Int32)) → ((x1 = (61 : Int32)) → pt_X10_sign_1 l D d q Γ r0 x1 r0 μ_1) ∧ ((¬ x1 = (61 : Int32)) → ((¬ x1 = (62 : Int32)) → pt_X10_sign_2 l D d q Γ r0 x1 r0 (5 : Int32) μ_1) ∧ ((x1 = (62 : Int32)) → pt_X10_sign_1 l D d q Γ r0 x1 r0 μ_1))))))))))) : pt_X10_sign_0 l D d q Γ r0 x1 μ := by
  unfold pt_X10_sign_0
  refine g_aload_n dX10_sign_0 rfl ?_
  refine g_dup dX10_sign_1 rfl ?_
  refine g_gfI fi_10_151 hr0 dX10_sign_2 ?_
  refine g_iconst (1 : Int32) dX10_sign_5 rfl ?_
  refine g_iadd dX10_sign_6 ?_
  refine g_pfI fi_10_151 hr0 rfl rfl dX10_sign_7 ?_
  obtain ⟨μ_1, eμ_1⟩ : ∃ z : gMem, z = gsI μ 10 r0 20 ((μ.1 10 r0 20) + (1 : Int32)) := ⟨_, rfl⟩
  have h := h μ_1 eμ_1
  refine g_mem eμ_1.symm ?_
  refine g_aload_n dX10_sign_10 rfl ?_
  refine g_iload_n dX10_sign_11 rfl ?_
  refine g_bipush (59 : Int32) dX10_sign_12 rfl ?_
  refine g_icmp_eq (tgt := 71) dX10_sign_14 (by decide) (fun c_2 => ?_) (fun c_2 => ?_)
  · have h := h.1 c_2
    exact g_sub [0, 1] rfl h
  · have h := h.2 c_2
    refine g_iload_n dX10_sign_17 rfl ?_
    refine g_bipush (40 : Int32) dX10_sign_18 rfl ?_
    refine g_icmp_eq (tgt := 71) dX10_sign_20 (by decide) (fun c_3 => ?_) (fun c_3 => ?_)
    · have h := h.1 c_3
      exact g_sub [0, 1] rfl h
    · have h := h.2 c_3
      refine g_iload_n dX10_sign_23 rfl ?_
      refine g_bipush (41 : Int32) dX10_sign_24 rfl ?_
      refine g_icmp_eq (tgt := 71) dX10_sign_26 (by decide) (fun c_4 => ?_) (fun c_4 => ?_)
      · have h := h.1 c_4
        exact g_sub [0, 1] rfl h
      · have h := h.2 c_4
        refine g_iload_n dX10_sign_29 rfl ?_
        refine g_bipush (43 : Int32) dX10_sign_30 rfl ?_
        refine g_icmp_eq (tgt := 71) dX10_sign_32 (by decide) (fun c_5 => ?_) (fun c_5 => ?_)
        · have h := h.1 c_5
          exact g_sub [0, 1] rfl h
        · have h := h.2 c_5
          refine g_iload_n dX10_sign_35 rfl ?_
          refine g_bipush (45 : Int32) dX10_sign_36 rfl ?_
          refine g_icmp_eq (tgt := 71) dX10_sign_38 (by decide) (fun c_6 => ?_) (fun c_6 => ?_)
          · have h := h.1 c_6
            exact g_sub [0, 1] rfl h
          · have h := h.2 c_6
            refine g_iload_n dX10_sign_41 rfl ?_
            refine g_bipush (42 : Int32) dX10_sign_42 rfl ?_
            refine g_icmp_eq (tgt := 71) dX10_sign_44 (by decide) (fun c_7 => ?_) (fun c_7 => ?_)
            · have h := h.1 c_7
              exact g_sub [0, 1] rfl h
            · have h := h.2 c_7
              refine g_iload_n dX10_sign_47 rfl ?_
              refine g_bipush (47 : Int32) dX10_sign_48 rfl ?_
              refine g_icmp_eq (tgt := 71) dX10_sign_50 (by decide) (fun c_8 => ?_) (fun c_8 => ?_)
              · have h := h.1 c_8
                exact g_sub [0, 1] rfl h
              · have h := h.2 c_8
                refine g_iload_n dX10_sign_53 rfl ?_
                refine g_bipush (60 : Int32) dX10_sign_54 rfl ?_
                refine g_icmp_eq (tgt := 71) dX10_sign_56 (by decide) (fun c_9 => ?_) (fun c_9 => ?_)
                · have h := h.1 c_9
                  exact g_sub [0, 1] rfl h
                · have h := h.2 c_9
                  refine g_iload_n dX10_sign_59 rfl ?_
                  refine g_bipush (61 : Int32) dX10_sign_60 rfl ?_
                  refine g_icmp_eq (tgt := 71) dX10_sign_62 (by decide) (fun c_10 => ?_) (fun c_10 => ?_)
                  · have h := h.1 c_10
                    exact g_sub [0, 1] rfl h
                  · have h := h.2 c_10
                    refine g_iload_n dX10_sign_65 rfl ?_
                    refine g_bipush (62 : Int32) dX10_sign_66 rfl ?_
                    refine g_icmp_ne (tgt := 75) dX10_sign_68 (by decide) (fun c_11 => ?_) (fun c_11 => ?_)
                    · have h := h.1 c_11
                      refine g_iconst (5 : Int32) dX10_sign_75 rfl ?_
                      exact g_sub [0, 1] rfl h
                    · have h := h.2 c_11
                      exact g_sub [0, 1] rfl h
set_option maxRecDepth 20000 in
set_option maxHeartbeats 4000000 in
theorem bl_X10_sign_1 {l : Launch} {D : gD} {d : Nat} {q : gMem → Prop} {Γ : gC} {r0 : Nat} {x1 : Int32} {rs0 : Nat} {μ : gMem} (hr0 : r0 < 1) (hrs0 : rs0 < 1) (h : pt_X10_sign_2 l D d q Γ r0 x1 rs0 (3 : Int32) μ) : pt_X10_sign_1 l D d q Γ r0 x1 rs0 μ := by
  unfold pt_X10_sign_1
  refine g_iconst (3 : Int32) dX10_sign_71 rfl ?_
  refine g_goto (tgt := 76) dX10_sign_72 (by decide) ?_
  exact g_sub [0, 1] rfl h
set_option maxRecDepth 20000 in
set_option maxHeartbeats 4000000 in
theorem bl_X10_sign_2 {l : Launch} {D : gD} {d : Nat} {q : gMem → Prop} {Γ : gC} {r0 : Nat} {x1 : Int32} {rs0 : Nat} {xs1 : Int32} {μ : gMem} (hr0 : r0 < 1) (hrs0 : rs0 < 1) (h : ∀ μ_1 : gMem, μ_1 = gsI μ 10 rs0 22 xs1 → ∀ μ_2 : gMem, μ_2 = gsI μ_1 10 r0 23 x1 → ((¬ x1 = (60 : Int32)) → pt_X10_sign_3 l D d q Γ r0 x1 μ_2) ∧ ((x1 = (60 : Int32)) → ∃ (d_4 : Nat) (q_5 : Int32 → gMem → Prop), d_4 < d ∧ Ctr l D d_4 yX10_here cX10_here 1 (some .int) [.ref (D.2.2 10 r0)] μ_2 (pI q_5) ∧ ∀ (v_9 : Int32) (μ_8 : gMem), q_5 v_9 μ_8 → ((¬ v_9 = (61 : Int32)) → pt_X10_sign_3 l D d q Γ r0 x1 μ_8) ∧ ((v_9 = (61 : Int32)) → ∀ μ_12 : gMem, μ_12 = gsI μ_8 10 r0 23 (256 : Int32) → pt_X10_sign_3 l D d q Γ r0 x1 μ_12))) : pt_X10_sign_2 l D d q Γ r0 x1 rs0 xs1 μ := by
  unfold pt_X10_sign_2
  refine g_pfI fi_10_164 hrs0 rfl rfl dX10_sign_76 ?_
  obtain ⟨μ_1, eμ_1⟩ : ∃ z : gMem, z = gsI μ 10 rs0 22 xs1 := ⟨_, rfl⟩
  have h := h μ_1 eμ_1
  refine g_mem eμ_1.symm ?_
  refine g_aload_n dX10_sign_79 rfl ?_
  refine g_iload_n dX10_sign_80 rfl ?_
  refine g_pfI fi_10_174 hr0 rfl rfl dX10_sign_81 ?_
  obtain ⟨μ_2, eμ_2⟩ : ∃ z : gMem, z = gsI μ_1 10 r0 23 x1 := ⟨_, rfl⟩
  have h := h μ_2 eμ_2
  refine g_mem eμ_2.symm ?_
  refine g_iload_n dX10_sign_84 rfl ?_
  refine g_bipush (60 : Int32) dX10_sign_85 rfl ?_
  refine g_icmp_ne (tgt := 106) dX10_sign_87 (by decide) (fun c_3 => ?_) (fun c_3 => ?_)
  · have h := h.1 c_3
    exact g_sub [0, 1] rfl h
  · have h := h.2 c_3
    refine g_aload_n dX10_sign_90 rfl ?_
    obtain ⟨d_4, q_5, hd_6, hc_7, h⟩ := h
    refine g_cV ca_X10_157 ob_10 hc_7 hd_6 (by decide) hr0 rfl rfl (by first | exact Nat.le_of_ble_eq_true rfl | decide) dX10_sign_91 (kI (fun v_9 μ_8 hq_10 => ?_))
    have h := h v_9 μ_8 hq_10
    refine g_bipush (61 : Int32) dX10_sign_94 rfl ?_
    refine g_icmp_ne (tgt := 106) dX10_sign_96 (by decide) (fun c_11 => ?_) (fun c_11 => ?_)
    · have h := h.1 c_11
      exact g_sub [0, 1] rfl h
    · have h := h.2 c_11
      refine g_aload_n dX10_sign_99 rfl ?_
      refine g_sipush (256 : Int32) dX10_sign_100 rfl ?_
      refine g_pfI fi_10_174 hr0 rfl rfl dX10_sign_103 ?_
      obtain ⟨μ_12, eμ_12⟩ : ∃ z : gMem, z = gsI μ_8 10 r0 23 (256 : Int32) := ⟨_, rfl⟩
      have h := h μ_12 eμ_12
      refine g_mem eμ_12.symm ?_
      exact g_sub [0, 1] rfl h
set_option maxRecDepth 20000 in
set_option maxHeartbeats 4000000 in
theorem bl_X10_sign_3 {l : Launch} {D : gD} {d : Nat} {q : gMem → Prop} {Γ : gC} {r0 : Nat} {x1 : Int32} {μ : gMem} (hr0 : r0 < 1) (h : ((¬ x1 = (60 : Int32)) → pt_X10_sign_4 l D d q Γ r0 x1 μ) ∧ ((x1 = (60 : Int32)) → ∃ (d_2 : Nat) (q_3 : Int32 → gMem → Prop), d_2 < d ∧ Ctr l D d_2 yX10_here cX10_here 1 (some .int) [.ref (D.2.2 10 r0)] μ (pI q_3) ∧ ∀ (v_7 : Int32) (μ_6 : gMem), q_3 v_7 μ_6 → ((¬ v_7 = (62 : Int32)) → pt_X10_sign_4 l D d q Γ r0 x1 μ_6) ∧ ((v_7 = (62 : Int32)) → ∀ μ_10 : gMem, μ_10 = gsI μ_6 10 r0 23 (257 : Int32) → pt_X10_sign_4 l D d q Γ r0 x1 μ_10))) : pt_X10_sign_3 l D d q Γ r0 x1 μ := by
  unfold pt_X10_sign_3
  refine g_iload_n dX10_sign_106 rfl ?_
  refine g_bipush (60 : Int32) dX10_sign_107 rfl ?_
  refine g_icmp_ne (tgt := 128) dX10_sign_109 (by decide) (fun c_1 => ?_) (fun c_1 => ?_)
  · have h := h.1 c_1
    exact g_sub [0, 1] rfl h
  · have h := h.2 c_1
    refine g_aload_n dX10_sign_112 rfl ?_
    obtain ⟨d_2, q_3, hd_4, hc_5, h⟩ := h
    refine g_cV ca_X10_157 ob_10 hc_5 hd_4 (by decide) hr0 rfl rfl (by first | exact Nat.le_of_ble_eq_true rfl | decide) dX10_sign_113 (kI (fun v_7 μ_6 hq_8 => ?_))
    have h := h v_7 μ_6 hq_8
    refine g_bipush (62 : Int32) dX10_sign_116 rfl ?_
    refine g_icmp_ne (tgt := 128) dX10_sign_118 (by decide) (fun c_9 => ?_) (fun c_9 => ?_)
    · have h := h.1 c_9
      exact g_sub [0, 1] rfl h
    · have h := h.2 c_9
      refine g_aload_n dX10_sign_121 rfl ?_
      refine g_sipush (257 : Int32) dX10_sign_122 rfl ?_
      refine g_pfI fi_10_174 hr0 rfl rfl dX10_sign_125 ?_
      obtain ⟨μ_10, eμ_10⟩ : ∃ z : gMem, z = gsI μ_6 10 r0 23 (257 : Int32) := ⟨_, rfl⟩
      have h := h μ_10 eμ_10
      refine g_mem eμ_10.symm ?_
      exact g_sub [0, 1] rfl h
set_option maxRecDepth 20000 in
set_option maxHeartbeats 4000000 in
theorem bl_X10_sign_4 {l : Launch} {D : gD} {d : Nat} {q : gMem → Prop} {Γ : gC} {r0 : Nat} {x1 : Int32} {μ : gMem} (hr0 : r0 < 1) (h : ((¬ x1 = (62 : Int32)) → pt_X10_sign_5 l D d q Γ r0 μ) ∧ ((x1 = (62 : Int32)) → ∃ (d_2 : Nat) (q_3 : Int32 → gMem → Prop), d_2 < d ∧ Ctr l D d_2 yX10_here cX10_here 1 (some .int) [.ref (D.2.2 10 r0)] μ (pI q_3) ∧ ∀ (v_7 : Int32) (μ_6 : gMem), q_3 v_7 μ_6 → ((¬ v_7 = (61 : Int32)) → pt_X10_sign_5 l D d q Γ r0 μ_6) ∧ ((v_7 = (61 : Int32)) → ∀ μ_10 : gMem, μ_10 = gsI μ_6 10 r0 23 (258 : Int32) → pt_X10_sign_5 l D d q Γ r0 μ_10))) : pt_X10_sign_4 l D d q Γ r0 x1 μ := by
  unfold pt_X10_sign_4
  refine g_iload_n dX10_sign_128 rfl ?_
  refine g_bipush (62 : Int32) dX10_sign_129 rfl ?_
  refine g_icmp_ne (tgt := 150) dX10_sign_131 (by decide) (fun c_1 => ?_) (fun c_1 => ?_)
  · have h := h.1 c_1
    exact g_sub [0] rfl h
  · have h := h.2 c_1
    refine g_aload_n dX10_sign_134 rfl ?_
    obtain ⟨d_2, q_3, hd_4, hc_5, h⟩ := h
    refine g_cV ca_X10_157 ob_10 hc_5 hd_4 (by decide) hr0 rfl rfl (by first | exact Nat.le_of_ble_eq_true rfl | decide) dX10_sign_135 (kI (fun v_7 μ_6 hq_8 => ?_))
    have h := h v_7 μ_6 hq_8
    refine g_bipush (61 : Int32) dX10_sign_138 rfl ?_
    refine g_icmp_ne (tgt := 150) dX10_sign_140 (by decide) (fun c_9 => ?_) (fun c_9 => ?_)
    · have h := h.1 c_9
      exact g_sub [0] rfl h
    · have h := h.2 c_9
      refine g_aload_n dX10_sign_143 rfl ?_
      refine g_sipush (258 : Int32) dX10_sign_144 rfl ?_
      refine g_pfI fi_10_174 hr0 rfl rfl dX10_sign_147 ?_
      obtain ⟨μ_10, eμ_10⟩ : ∃ z : gMem, z = gsI μ_6 10 r0 23 (258 : Int32) := ⟨_, rfl⟩
      have h := h μ_10 eμ_10
      refine g_mem eμ_10.symm ?_
      exact g_sub [0] rfl h
set_option maxRecDepth 20000 in
set_option maxHeartbeats 4000000 in
theorem bl_X10_sign_5 {l : Launch} {D : gD} {d : Nat} {q : gMem → Prop} {Γ : gC} {r0 : Nat} {μ : gMem} (hr0 : r0 < 1) (h : (((μ.1 10 r0 23) < (256 : Int32)) → q μ) ∧ ((¬ (μ.1 10 r0 23) < (256 : Int32)) → ∀ μ_2 : gMem, μ_2 = gsI μ 10 r0 20 ((μ.1 10 r0 20) + (1 : Int32)) → q μ_2)) : pt_X10_sign_5 l D d q Γ r0 μ := by
  unfold pt_X10_sign_5
  refine g_aload_n dX10_sign_150 rfl ?_
  refine g_gfI fi_10_174 hr0 dX10_sign_151 ?_
  refine g_sipush (256 : Int32) dX10_sign_154 rfl ?_
  refine g_icmp_lt (tgt := 170) dX10_sign_157 (by decide) (fun c_1 => ?_) (fun c_1 => ?_)
  · have h := h.1 c_1
    exact g_vret dX10_sign_170 rfl ⟨rfl, h⟩
  · have h := h.2 c_1
    refine g_aload_n dX10_sign_160 rfl ?_
    refine g_dup dX10_sign_161 rfl ?_
    refine g_gfI fi_10_151 hr0 dX10_sign_162 ?_
    refine g_iconst (1 : Int32) dX10_sign_165 rfl ?_
    refine g_iadd dX10_sign_166 ?_
    refine g_pfI fi_10_151 hr0 rfl rfl dX10_sign_167 ?_
    obtain ⟨μ_2, eμ_2⟩ : ∃ z : gMem, z = gsI μ 10 r0 20 ((μ.1 10 r0 20) + (1 : Int32)) := ⟨_, rfl⟩
    have h := h μ_2 eμ_2
    refine g_mem eμ_2.symm ?_
    exact g_vret dX10_sign_170 rfl ⟨rfl, h⟩
theorem en_X10_sign {l : Launch} {D : gD} {d : Nat} {q : gMem → Prop} {r0 : Nat} {x1 : Int32} {μ : gMem} (h : ∀ Γ : gC, pt_X10_sign_0 l D d q Γ r0 x1 μ) : Ctr l D d yX10_sign cX10_sign 2 none [.ref (D.2.2 10 r0), .int x1] μ (pV q) :=
  Ctr_of rfl (by decide) (Nat.le_of_ble_eq_true rfl) (fun Γ => g_sub [0, 1] rfl (h Γ))
def pt_X10_name_0 (l : Launch) (D : gD) (d : Nat) (q : gMem → Prop) (Γ : gC) (r0 : Nat) (μ : gMem) : Prop := G l D RX10 cX10_name 2 none d (pV q) Γ 0 [(0, .ref (D.2.2 10 r0))] [] μ
def pt_X10_name_1 (l : Launch) (D : gD) (d : Nat) (q : gMem → Prop) (Γ : gC) (r0 : Nat) (x1 : Int32) (μ : gMem) : Prop := G l D RX10 cX10_name 2 none d (pV q) Γ 7 [(0, .ref (D.2.2 10 r0)), (1, .int x1)] [] μ
def pt_X10_name_2 (l : Launch) (D : gD) (d : Nat) (q : gMem → Prop) (Γ : gC) (r0 : Nat) (x1 : Int32) (rs0 : Nat) (xs1 : Int32) (xs2 : Int32) (μ : gMem) : Prop := G l D RX10 cX10_name 2 none d (pV q) Γ 53 [(0, .ref (D.2.2 10 r0)), (1, .int x1)] [.int xs2, .int xs1, .ref (D.2.2 10 rs0)] μ
set_option maxRecDepth 20000 in
set_option maxHeartbeats 4000000 in
theorem bl_X10_name_0 {l : Launch} {D : gD} {d : Nat} {q : gMem → Prop} {Γ : gC} {r0 : Nat} {μ : gMem} (hr0 : r0 < 1) (h : ∀ μ_1 : gMem, μ_1 = gsI μ 10 r0 23 (0 : Int32) → ∀ x1_2 : Int32, x1_2 = (0 : Int32) → pt_X10_name_1 l D d q Γ r0 x1_2 μ_1) : pt_X10_name_0 l D d q Γ r0 μ := by
  unfold pt_X10_name_0
  refine g_aload_n dX10_name_0 rfl ?_
  refine g_iconst (0 : Int32) dX10_name_1 rfl ?_
  refine g_pfI fi_10_174 hr0 rfl rfl dX10_name_2 ?_
  obtain ⟨μ_1, eμ_1⟩ : ∃ z : gMem, z = gsI μ 10 r0 23 (0 : Int32) := ⟨_, rfl⟩
  have h := h μ_1 eμ_1
  refine g_mem eμ_1.symm ?_
  refine g_iconst (0 : Int32) dX10_name_5 rfl ?_
  refine g_istore_n dX10_name_6 (by decide) (fun x1_2 ex1_2 => g_sub (lv' := [(0, .ref (D.2.2 10 r0)), (1, .int x1_2)]) [1, 0] rfl ?_)
  have h := h x1_2 ex1_2
  exact g_sub [0, 1] rfl h
set_option maxRecDepth 20000 in
set_option maxHeartbeats 4000000 in
theorem bl_X10_name_1 {l : Launch} {D : gD} {d : Nat} {q : gMem → Prop} {Γ : gC} {r0 : Nat} {x1 : Int32} {μ : gMem} (hr0 : r0 < 1) (h : (((6 : Int32) ≤ x1) → q μ) ∧ ((¬ (6 : Int32) ≤ x1) → (((μ.1 10 r0 20) ≤ ((μ.1 10 r0 21) + x1)) → pt_X10_name_2 l D d q Γ r0 x1 r0 ((μ.1 10 r0 23) <<< ((5 : Int32) &&& 31)) (0 : Int32) μ) ∧ ((¬ (μ.1 10 r0 20) ≤ ((μ.1 10 r0 21) + x1)) → ∃ j_3 : Nat, j_3 < 700 ∧ (μ.1 10 r0 21) + x1 = nI j_3 ∧ (pt_X10_name_2 l D d q Γ r0 x1 r0 ((μ.1 10 r0 23) <<< ((5 : Int32) &&& 31)) (((μ.1 705 r0 j_3) - (97 : Int32)) + (1 : Int32)) μ)))) : pt_X10_name_1 l D d q Γ r0 x1 μ := by
  unfold pt_X10_name_1
  refine g_iload_n dX10_name_7 rfl ?_
  refine g_bipush (6 : Int32) dX10_name_8 rfl ?_
  refine g_icmp_ge (tgt := 63) dX10_name_10 (by decide) (fun c_1 => ?_) (fun c_1 => ?_)
  · have h := h.1 c_1
    exact g_vret dX10_name_63 rfl ⟨rfl, h⟩
  · have h := h.2 c_1
    refine g_aload_n dX10_name_13 rfl ?_
    refine g_aload_n dX10_name_14 rfl ?_
    refine g_gfI fi_10_174 hr0 dX10_name_15 ?_
    refine g_iconst (5 : Int32) dX10_name_18 rfl ?_
    refine g_ishl dX10_name_19 ?_
    refine g_aload_n dX10_name_20 rfl ?_
    refine g_gfI fi_10_161 hr0 dX10_name_21 ?_
    refine g_iload_n dX10_name_24 rfl ?_
    refine g_iadd dX10_name_25 ?_
    refine g_aload_n dX10_name_26 rfl ?_
    refine g_gfI fi_10_151 hr0 dX10_name_27 ?_
    refine g_icmp_ge (tgt := 52) dX10_name_30 (by decide) (fun c_2 => ?_) (fun c_2 => ?_)
    · have h := h.1 c_2
      refine g_iconst (0 : Int32) dX10_name_52 rfl ?_
      exact g_sub [0, 1] rfl h
    · have h := h.2 c_2
      refine g_aload_n dX10_name_33 rfl ?_
      refine g_gfR fl_10_7 rfl hr0 dX10_name_34 ?_
      refine g_aload_n dX10_name_37 rfl ?_
      refine g_gfI fi_10_161 hr0 dX10_name_38 ?_
      refine g_iload_n dX10_name_41 rfl ?_
      refine g_iadd dX10_name_42 ?_
      obtain ⟨j_3, hj_3, ej_3, h⟩ := h
      refine g_iald j_3 hr0 rfl hj_3 (by decide) ej_3 dX10_name_43 ?_
      refine g_bipush (97 : Int32) dX10_name_44 rfl ?_
      refine g_isub dX10_name_46 ?_
      refine g_iconst (1 : Int32) dX10_name_47 rfl ?_
      refine g_iadd dX10_name_48 ?_
      refine g_goto (tgt := 53) dX10_name_49 (by decide) ?_
      exact g_sub [0, 1] rfl h
set_option maxRecDepth 20000 in
set_option maxHeartbeats 4000000 in
theorem bl_X10_name_2 {l : Launch} {D : gD} {d : Nat} {q : gMem → Prop} {Γ : gC} {r0 : Nat} {x1 : Int32} {rs0 : Nat} {xs1 : Int32} {xs2 : Int32} {μ : gMem} (hr0 : r0 < 1) (hrs0 : rs0 < 1) (h : ∀ μ_1 : gMem, μ_1 = gsI μ 10 rs0 23 (xs1 ||| xs2) → ∀ x1_2 : Int32, x1_2 = x1 + (1 : Int32) → pt_X10_name_1 l D d q Γ r0 x1_2 μ_1) : pt_X10_name_2 l D d q Γ r0 x1 rs0 xs1 xs2 μ := by
  unfold pt_X10_name_2
  refine g_ior dX10_name_53 ?_
  refine g_pfI fi_10_174 hrs0 rfl rfl dX10_name_54 ?_
  obtain ⟨μ_1, eμ_1⟩ : ∃ z : gMem, z = gsI μ 10 rs0 23 (xs1 ||| xs2) := ⟨_, rfl⟩
  have h := h μ_1 eμ_1
  refine g_mem eμ_1.symm ?_
  refine g_iinc dX10_name_57 rfl (by decide) (fun x1_2 ex1_2 => g_sub (lv' := [(0, .ref (D.2.2 10 r0)), (1, .int x1_2)]) [1, 0] rfl ?_)
  have h := h x1_2 ex1_2
  refine g_goto (tgt := 7) dX10_name_60 (by decide) ?_
  exact g_sub [0, 1] rfl h
theorem en_X10_name {l : Launch} {D : gD} {d : Nat} {q : gMem → Prop} {r0 : Nat} {μ : gMem} (h : ∀ Γ : gC, pt_X10_name_0 l D d q Γ r0 μ) : Ctr l D d yX10_name cX10_name 2 none [.ref (D.2.2 10 r0)] μ (pV q) :=
  Ctr_of rfl (by decide) (Nat.le_of_ble_eq_true rfl) (fun Γ => g_sub [0] rfl (h Γ))
def pt_X10_wrong_0 (l : Launch) (D : gD) (d : Nat) (q : gMem → Prop) (Γ : gC) (r0 : Nat) (x1 : Int32) (μ : gMem) : Prop := G l D RX10 cX10_wrong 2 none d (pV q) Γ 0 [(0, .ref (D.2.2 10 r0)), (1, .int x1)] [] μ
set_option maxRecDepth 20000 in
set_option maxHeartbeats 4000000 in
theorem bl_X10_wrong_0 {l : Launch} {D : gD} {d : Nat} {q : gMem → Prop} {Γ : gC} {r0 : Nat} {x1 : Int32} {μ : gMem} (hr0 : r0 < 1) (h : (((μ.1 10 r0 24) = 0) → ∀ μ_2 : gMem, μ_2 = gsI μ 10 r0 24 x1 → ∀ μ_3 : gMem, μ_3 = gsI μ_2 10 r0 25 (μ_2.1 10 r0 21) → q μ_3) ∧ ((¬ (μ.1 10 r0 24) = 0) → q μ)) : pt_X10_wrong_0 l D d q Γ r0 x1 μ := by
  unfold pt_X10_wrong_0
  refine g_aload_n dX10_wrong_0 rfl ?_
  refine g_gfI fi_10_199 hr0 dX10_wrong_1 ?_
  refine g_if_eq (tgt := 8) dX10_wrong_4 (by decide) (fun c_1 => ?_) (fun c_1 => ?_)
  · have h := h.1 c_1
    refine g_aload_n dX10_wrong_8 rfl ?_
    refine g_iload_n dX10_wrong_9 rfl ?_
    refine g_pfI fi_10_199 hr0 rfl rfl dX10_wrong_10 ?_
    obtain ⟨μ_2, eμ_2⟩ : ∃ z : gMem, z = gsI μ 10 r0 24 x1 := ⟨_, rfl⟩
    have h := h μ_2 eμ_2
    refine g_mem eμ_2.symm ?_
    refine g_aload_n dX10_wrong_13 rfl ?_
    refine g_aload_n dX10_wrong_14 rfl ?_
    refine g_gfI fi_10_161 hr0 dX10_wrong_15 ?_
    refine g_pfI fi_10_202 hr0 rfl rfl dX10_wrong_18 ?_
    obtain ⟨μ_3, eμ_3⟩ : ∃ z : gMem, z = gsI μ_2 10 r0 25 (μ_2.1 10 r0 21) := ⟨_, rfl⟩
    have h := h μ_3 eμ_3
    refine g_mem eμ_3.symm ?_
    exact g_vret dX10_wrong_21 rfl ⟨rfl, h⟩
  · have h := h.2 c_1
    exact g_vret dX10_wrong_7 rfl ⟨rfl, h⟩
theorem en_X10_wrong {l : Launch} {D : gD} {d : Nat} {q : gMem → Prop} {r0 : Nat} {x1 : Int32} {μ : gMem} (h : ∀ Γ : gC, pt_X10_wrong_0 l D d q Γ r0 x1 μ) : Ctr l D d yX10_wrong cX10_wrong 2 none [.ref (D.2.2 10 r0), .int x1] μ (pV q) :=
  Ctr_of rfl (by decide) (Nat.le_of_ble_eq_true rfl) (fun Γ => g_sub [0, 1] rfl (h Γ))
def pt_X10_goOn_0 (l : Launch) (D : gD) (d : Nat) (q : gMem → Prop) (Γ : gC) (r0 : Nat) (μ : gMem) : Prop := G l D RX10 cX10_goOn 1 none d (pV q) Γ 0 [(0, .ref (D.2.2 10 r0))] [] μ
set_option maxRecDepth 20000 in
set_option maxHeartbeats 4000000 in
theorem bl_X10_goOn_0 {l : Launch} {D : gD} {d : Nat} {q : gMem → Prop} {Γ : gC} {r0 : Nat} {μ : gMem} (hr0 : r0 < 1) (h : ((¬ (μ.1 10 r0 24) = 0) → q μ) ∧ (((μ.1 10 r0 24) = 0) → ∃ (d_2 : Nat) (q_3 : gMem → Prop), d_2 < d ∧ Ctr l D d_2 yX10_token cX10_token 2 none [.ref (D.2.2 10 r0)] μ (pV q_3) ∧ ∀ (μ_6 : gMem), q_3 μ_6 → q μ_6)) : pt_X10_goOn_0 l D d q Γ r0 μ := by
  unfold pt_X10_goOn_0
  refine g_aload_n dX10_goOn_0 rfl ?_
  refine g_gfI fi_10_199 hr0 dX10_goOn_1 ?_
  refine g_if_ne (tgt := 11) dX10_goOn_4 (by decide) (fun c_1 => ?_) (fun c_1 => ?_)
  · have h := h.1 c_1
    exact g_vret dX10_goOn_11 rfl ⟨rfl, h⟩
  · have h := h.2 c_1
    refine g_aload_n dX10_goOn_7 rfl ?_
    obtain ⟨d_2, q_3, hd_4, hc_5, h⟩ := h
    refine g_cV ca_X10_205 ob_10 hc_5 hd_4 (by decide) hr0 rfl rfl (by first | exact Nat.le_of_ble_eq_true rfl | decide) dX10_goOn_8 (kV (fun μ_6 hq_8 => ?_))
    have h := h μ_6 hq_8
    exact g_vret dX10_goOn_11 rfl ⟨rfl, h⟩
theorem en_X10_goOn {l : Launch} {D : gD} {d : Nat} {q : gMem → Prop} {r0 : Nat} {μ : gMem} (h : ∀ Γ : gC, pt_X10_goOn_0 l D d q Γ r0 μ) : Ctr l D d yX10_goOn cX10_goOn 1 none [.ref (D.2.2 10 r0)] μ (pV q) :=
  Ctr_of rfl (by decide) (Nat.le_of_ble_eq_true rfl) (fun Γ => g_sub [0] rfl (h Γ))
def pt_X10_numeral_0 (l : Launch) (D : gD) (d : Nat) (q : Int32 → gMem → Prop) (Γ : gC) (r0 : Nat) (x1 : Int32) (x2 : Int32) (μ : gMem) : Prop := G l D RX10 cX10_numeral 4 (some .int) d (pI q) Γ 0 [(0, .ref (D.2.2 10 r0)), (1, .int x1), (2, .int x2)] [] μ
def pt_X10_numeral_1 (l : Launch) (D : gD) (d : Nat) (q : Int32 → gMem → Prop) (Γ : gC) (r0 : Nat) (x1 : Int32) (μ : gMem) : Prop := G l D RX10 cX10_numeral 4 (some .int) d (pI q) Γ 41 [(0, .ref (D.2.2 10 r0)), (1, .int x1)] [] μ
def pt_X10_numeral_2 (l : Launch) (D : gD) (d : Nat) (q : Int32 → gMem → Prop) (Γ : gC) (r0 : Nat) (x1 : Int32) (μ : gMem) : Prop := G l D RX10 cX10_numeral 4 (some .int) d (pI q) Γ 46 [(0, .ref (D.2.2 10 r0)), (1, .int x1)] [] μ
set_option maxRecDepth 20000 in
set_option maxHeartbeats 4000000 in
theorem bl_X10_numeral_0 {l : Launch} {D : gD} {d : Nat} {q : Int32 → gMem → Prop} {Γ : gC} {r0 : Nat} {x1 : Int32} {x2 : Int32} {μ : gMem} (hr0 : r0 < 1) (h : (((μ.1 10 r0 24) = 0) → (((μ.1 10 r0 22) = (2 : Int32)) → (((μ.1 10 r0 23) < x1) → pt_X10_numeral_1 l D d q Γ r0 x1 μ) ∧ ((¬ (μ.1 10 r0 23) < x1) → (((μ.1 10 r0 23) ≤ x2) → pt_X10_numeral_2 l D d q Γ r0 x1 μ) ∧ ((¬ (μ.1 10 r0 23) ≤ x2) → pt_X10_numeral_1 l D d q Γ r0 x1 μ))) ∧ ((¬ (μ.1 10 r0 22) = (2 : Int32)) → ∃ (d_5 : Nat) (q_6 : gMem → Prop), d_5 < d ∧ Ctr l D d_5 yX10_wrong cX10_wrong 2 none [.ref (D.2.2 10 r0), .int (1 : Int32)] μ (pV q_6) ∧ ∀ (μ_9 : gMem), q_6 μ_9 → pt_X10_numeral_2 l D d q Γ r0 x1 μ_9)) ∧ ((¬ (μ.1 10 r0 24) = 0) → q x1 μ)) : pt_X10_numeral_0 l D d q Γ r0 x1 x2 μ := by
  unfold pt_X10_numeral_0
  refine g_aload_n dX10_numeral_0 rfl ?_
  refine g_gfI fi_10_199 hr0 dX10_numeral_1 ?_
  refine g_if_eq (tgt := 9) dX10_numeral_4 (by decide) (fun c_1 => ?_) (fun c_1 => ?_)
  · have h := h.1 c_1
    refine g_aload_n dX10_numeral_9 rfl ?_
    refine g_gfI fi_10_164 hr0 dX10_numeral_10 ?_
    refine g_iconst (2 : Int32) dX10_numeral_13 rfl ?_
    refine g_icmp_eq (tgt := 25) dX10_numeral_14 (by decide) (fun c_2 => ?_) (fun c_2 => ?_)
    · have h := h.1 c_2
      refine g_aload_n dX10_numeral_25 rfl ?_
      refine g_gfI fi_10_174 hr0 dX10_numeral_26 ?_
      refine g_iload_n dX10_numeral_29 rfl ?_
      refine g_icmp_lt (tgt := 41) dX10_numeral_30 (by decide) (fun c_3 => ?_) (fun c_3 => ?_)
      · have h := h.1 c_3
        exact g_sub [0, 1] rfl h
      · have h := h.2 c_3
        refine g_aload_n dX10_numeral_33 rfl ?_
        refine g_gfI fi_10_174 hr0 dX10_numeral_34 ?_
        refine g_iload_n dX10_numeral_37 rfl ?_
        refine g_icmp_le (tgt := 46) dX10_numeral_38 (by decide) (fun c_4 => ?_) (fun c_4 => ?_)
        · have h := h.1 c_4
          exact g_sub [0, 1] rfl h
        · have h := h.2 c_4
          exact g_sub [0, 1] rfl h
    · have h := h.2 c_2
      refine g_aload_n dX10_numeral_17 rfl ?_
      refine g_iconst (1 : Int32) dX10_numeral_18 rfl ?_
      obtain ⟨d_5, q_6, hd_7, hc_8, h⟩ := h
      refine g_cV ca_X10_208 ob_10 hc_8 hd_7 (by decide) hr0 rfl rfl (by first | exact Nat.le_of_ble_eq_true rfl | decide) dX10_numeral_19 (kV (fun μ_9 hq_11 => ?_))
      have h := h μ_9 hq_11
      refine g_goto (tgt := 46) dX10_numeral_22 (by decide) ?_
      exact g_sub [0, 1] rfl h
  · have h := h.2 c_1
    refine g_iload_n dX10_numeral_7 rfl ?_
    exact g_iret dX10_numeral_8 rfl rfl ⟨_, rfl, h⟩
set_option maxRecDepth 20000 in
set_option maxHeartbeats 4000000 in
theorem bl_X10_numeral_1 {l : Launch} {D : gD} {d : Nat} {q : Int32 → gMem → Prop} {Γ : gC} {r0 : Nat} {x1 : Int32} {μ : gMem} (hr0 : r0 < 1) (h : ∃ (d_1 : Nat) (q_2 : gMem → Prop), d_1 < d ∧ Ctr l D d_1 yX10_wrong cX10_wrong 2 none [.ref (D.2.2 10 r0), .int (2 : Int32)] μ (pV q_2) ∧ ∀ (μ_5 : gMem), q_2 μ_5 → pt_X10_numeral_2 l D d q Γ r0 x1 μ_5) : pt_X10_numeral_1 l D d q Γ r0 x1 μ := by
  unfold pt_X10_numeral_1
  refine g_aload_n dX10_numeral_41 rfl ?_
  refine g_iconst (2 : Int32) dX10_numeral_42 rfl ?_
  obtain ⟨d_1, q_2, hd_3, hc_4, h⟩ := h
  refine g_cV ca_X10_208 ob_10 hc_4 hd_3 (by decide) hr0 rfl rfl (by first | exact Nat.le_of_ble_eq_true rfl | decide) dX10_numeral_43 (kV (fun μ_5 hq_7 => ?_))
  have h := h μ_5 hq_7
  exact g_sub [0, 1] rfl h
set_option maxRecDepth 20000 in
set_option maxHeartbeats 4000000 in
theorem bl_X10_numeral_2 {l : Launch} {D : gD} {d : Nat} {q : Int32 → gMem → Prop} {Γ : gC} {r0 : Nat} {x1 : Int32} {μ : gMem} (hr0 : r0 < 1) (h : (((μ.1 10 r0 24) = 0) → ∀ x3_2 : Int32, x3_2 = μ.1 10 r0 23 → ∃ (d_3 : Nat) (q_4 : gMem → Prop), d_3 < d ∧ Ctr l D d_3 yX10_token cX10_token 2 none [.ref (D.2.2 10 r0)] μ (pV q_4) ∧ ∀ (μ_7 : gMem), q_4 μ_7 → q x3_2 μ_7) ∧ ((¬ (μ.1 10 r0 24) = 0) → q x1 μ)) : pt_X10_numeral_2 l D d q Γ r0 x1 μ := by
  unfold pt_X10_numeral_2
  refine g_aload_n dX10_numeral_46 rfl ?_
  refine g_gfI fi_10_199 hr0 dX10_numeral_47 ?_
  refine g_if_eq (tgt := 55) dX10_numeral_50 (by decide) (fun c_1 => ?_) (fun c_1 => ?_)
  · have h := h.1 c_1
    refine g_aload_n dX10_numeral_55 rfl ?_
    refine g_gfI fi_10_174 hr0 dX10_numeral_56 ?_
    refine g_istore_n dX10_numeral_59 (by decide) (fun x3_2 ex3_2 => g_sub (lv' := [(0, .ref (D.2.2 10 r0)), (3, .int x3_2)]) [1, 0] rfl ?_)
    have h := h x3_2 ex3_2
    refine g_aload_n dX10_numeral_60 rfl ?_
    obtain ⟨d_3, q_4, hd_5, hc_6, h⟩ := h
    refine g_cV ca_X10_205 ob_10 hc_6 hd_5 (by decide) hr0 rfl rfl (by first | exact Nat.le_of_ble_eq_true rfl | decide) dX10_numeral_61 (kV (fun μ_7 hq_9 => ?_))
    have h := h μ_7 hq_9
    refine g_iload_n dX10_numeral_64 rfl ?_
    exact g_iret dX10_numeral_65 rfl rfl ⟨_, rfl, h⟩
  · have h := h.2 c_1
    refine g_iload_n dX10_numeral_53 rfl ?_
    exact g_iret dX10_numeral_54 rfl rfl ⟨_, rfl, h⟩
theorem en_X10_numeral {l : Launch} {D : gD} {d : Nat} {q : Int32 → gMem → Prop} {r0 : Nat} {x1 : Int32} {x2 : Int32} {μ : gMem} (h : ∀ Γ : gC, pt_X10_numeral_0 l D d q Γ r0 x1 x2 μ) : Ctr l D d yX10_numeral cX10_numeral 4 (some .int) [.ref (D.2.2 10 r0), .int x1, .int x2] μ (pI q) :=
  Ctr_of rfl (by decide) (Nat.le_of_ble_eq_true rfl) (fun Γ => g_sub [0, 1, 2] rfl (h Γ))
def pt_X10_found_0 (l : Launch) (D : gD) (d : Nat) (q : Int32 → gMem → Prop) (Γ : gC) (k0 : Nat) (i0 : Nat) (x1 : Int32) (x2 : Int32) (x3 : Int32) (μ : gMem) : Prop := G l D RX10 cX10_found 5 (some .int) d (pI q) Γ 0 [(0, .ref (D.2.2 k0 i0)), (1, .int x1), (2, .int x2), (3, .int x3)] [] μ
def pt_X10_found_1 (l : Launch) (D : gD) (d : Nat) (q : Int32 → gMem → Prop) (Γ : gC) (k0 : Nat) (i0 : Nat) (x1 : Int32) (x2 : Int32) (x3 : Int32) (x4 : Int32) (μ : gMem) : Prop := G l D RX10 cX10_found 5 (some .int) d (pI q) Γ 3 [(0, .ref (D.2.2 k0 i0)), (1, .int x1), (2, .int x2), (3, .int x3), (4, .int x4)] [] μ
set_option maxRecDepth 20000 in
set_option maxHeartbeats 4000000 in
theorem bl_X10_found_0 {l : Launch} {D : gD} {d : Nat} {q : Int32 → gMem → Prop} {Γ : gC} {k0 : Nat} {i0 : Nat} {x1 : Int32} {x2 : Int32} {x3 : Int32} {μ : gMem} (hk0 : gsh k0 = (1, (gsh k0).2.1, 0)) (hi0 : i0 < gkn k0) (h : ∀ x4_1 : Int32, x4_1 = (0 : Int32) → pt_X10_found_1 l D d q Γ k0 i0 x1 x2 x3 x4_1 μ) : pt_X10_found_0 l D d q Γ k0 i0 x1 x2 x3 μ := by
  unfold pt_X10_found_0
  refine g_iconst (0 : Int32) dX10_found_0 rfl ?_
  refine g_istore dX10_found_1 (by decide) (fun x4_1 ex4_1 => g_sub (lv' := [(0, .ref (D.2.2 k0 i0)), (1, .int x1), (2, .int x2), (3, .int x3), (4, .int x4_1)]) [1, 2, 3, 4, 0] rfl ?_)
  have h := h x4_1 ex4_1
  exact g_sub [0, 1, 2, 3, 4] rfl h
set_option maxRecDepth 20000 in
set_option maxHeartbeats 4000000 in
theorem bl_X10_found_1 {l : Launch} {D : gD} {d : Nat} {q : Int32 → gMem → Prop} {Γ : gC} {k0 : Nat} {i0 : Nat} {x1 : Int32} {x2 : Int32} {x3 : Int32} {x4 : Int32} {μ : gMem} (hk0 : gsh k0 = (1, (gsh k0).2.1, 0)) (hi0 : i0 < gkn k0) (h : ((x2 ≤ x4) → q (-1 : Int32) μ) ∧ ((¬ x2 ≤ x4) → ∃ j_2 : Nat, j_2 < (gsh k0).2.1 ∧ (gsh k0).2.1 < 2 ^ 31 ∧ x1 + x4 = nI j_2 ∧ (((¬ (μ.1 k0 i0 j_2) = x3) → ∀ x4_5 : Int32, x4_5 = x4 + (1 : Int32) → pt_X10_found_1 l D d q Γ k0 i0 x1 x2 x3 x4_5 μ) ∧ (((μ.1 k0 i0 j_2) = x3) → q x4 μ)))) : pt_X10_found_1 l D d q Γ k0 i0 x1 x2 x3 x4 μ := by
  unfold pt_X10_found_1
  refine g_iload dX10_found_3 rfl ?_
  refine g_iload_n dX10_found_5 rfl ?_
  refine g_icmp_ge (tgt := 28) dX10_found_6 (by decide) (fun c_1 => ?_) (fun c_1 => ?_)
  · have h := h.1 c_1
    refine g_iconst (-1 : Int32) dX10_found_28 rfl ?_
    exact g_iret dX10_found_29 rfl rfl ⟨_, rfl, h⟩
  · have h := h.2 c_1
    refine g_aload_n dX10_found_9 rfl ?_
    refine g_iload_n dX10_found_10 rfl ?_
    refine g_iload dX10_found_11 rfl ?_
    refine g_iadd dX10_found_13 ?_
    obtain ⟨j_2, hj_2, hn_3, ej_2, h⟩ := h
    refine g_iald j_2 hi0 hk0 hj_2 hn_3 ej_2 dX10_found_14 ?_
    refine g_iload_n dX10_found_15 rfl ?_
    refine g_icmp_ne (tgt := 22) dX10_found_16 (by decide) (fun c_4 => ?_) (fun c_4 => ?_)
    · have h := h.1 c_4
      refine g_iinc dX10_found_22 rfl (by decide) (fun x4_5 ex4_5 => g_sub (lv' := [(0, .ref (D.2.2 k0 i0)), (1, .int x1), (2, .int x2), (3, .int x3), (4, .int x4_5)]) [1, 2, 3, 4, 0] rfl ?_)
      have h := h x4_5 ex4_5
      refine g_goto (tgt := 3) dX10_found_25 (by decide) ?_
      exact g_sub [0, 1, 2, 3, 4] rfl h
    · have h := h.2 c_4
      refine g_iload dX10_found_19 rfl ?_
      exact g_iret dX10_found_21 rfl rfl ⟨_, rfl, h⟩
theorem en_X10_found {l : Launch} {D : gD} {d : Nat} {q : Int32 → gMem → Prop} {k0 : Nat} {i0 : Nat} {x1 : Int32} {x2 : Int32} {x3 : Int32} {μ : gMem} (h : ∀ Γ : gC, pt_X10_found_0 l D d q Γ k0 i0 x1 x2 x3 μ) : Ctr l D d yX10_found cX10_found 5 (some .int) [.ref (D.2.2 k0 i0), .int x1, .int x2, .int x3] μ (pI q) :=
  Ctr_of rfl (by decide) (Nat.le_of_ble_eq_true rfl) (fun Γ => g_sub [0, 1, 2, 3] rfl (h Γ))
def pt_X10_fresh_0 (l : Launch) (D : gD) (d : Nat) (q : Int32 → gMem → Prop) (Γ : gC) (r0 : Nat) (k1 : Nat) (i1 : Nat) (x2 : Int32) (x3 : Int32) (μ : gMem) : Prop := G l D RX10 cX10_fresh 5 (some .int) d (pI q) Γ 0 [(0, .ref (D.2.2 10 r0)), (1, .ref (D.2.2 k1 i1)), (2, .int x2), (3, .int x3)] [] μ
def pt_X10_fresh_1 (l : Launch) (D : gD) (d : Nat) (q : Int32 → gMem → Prop) (Γ : gC) (r0 : Nat) (μ : gMem) : Prop := G l D RX10 cX10_fresh 5 (some .int) d (pI q) Γ 44 [(0, .ref (D.2.2 10 r0))] [] μ
set_option maxRecDepth 20000 in
set_option maxHeartbeats 4000000 in
theorem bl_X10_fresh_0 {l : Launch} {D : gD} {d : Nat} {q : Int32 → gMem → Prop} {Γ : gC} {r0 : Nat} {k1 : Nat} {i1 : Nat} {x2 : Int32} {x3 : Int32} {μ : gMem} (hr0 : r0 < 1) (hk1 : gsh k1 = (1, (gsh k1).2.1, 0)) (hi1 : i1 < gkn k1) (h : (((μ.1 10 r0 24) = 0) → (((μ.1 10 r0 22) = (1 : Int32)) → ∃ (d_3 : Nat) (q_4 : Int32 → gMem → Prop), d_3 < d ∧ Ctr l D d_3 yX10_found cX10_found 5 (some .int) [.ref (D.2.2 k1 i1), .int x2, .int x3, .int (μ.1 10 r0 23)] μ (pI q_4) ∧ ∀ (v_8 : Int32) (μ_7 : gMem), q_4 v_8 μ_7 → ((v_8 = (-1 : Int32)) → pt_X10_fresh_1 l D d q Γ r0 μ_7) ∧ ((¬ v_8 = (-1 : Int32)) → ∃ (d_11 : Nat) (q_12 : gMem → Prop), d_11 < d ∧ Ctr l D d_11 yX10_wrong cX10_wrong 2 none [.ref (D.2.2 10 r0), .int (3 : Int32)] μ_7 (pV q_12) ∧ ∀ (μ_15 : gMem), q_12 μ_15 → pt_X10_fresh_1 l D d q Γ r0 μ_15)) ∧ ((¬ (μ.1 10 r0 22) = (1 : Int32)) → ∃ (d_18 : Nat) (q_19 : gMem → Prop), d_18 < d ∧ Ctr l D d_18 yX10_wrong cX10_wrong 2 none [.ref (D.2.2 10 r0), .int (1 : Int32)] μ (pV q_19) ∧ ∀ (μ_22 : gMem), q_19 μ_22 → pt_X10_fresh_1 l D d q Γ r0 μ_22)) ∧ ((¬ (μ.1 10 r0 24) = 0) → q (0 : Int32) μ)) : pt_X10_fresh_0 l D d q Γ r0 k1 i1 x2 x3 μ := by
  unfold pt_X10_fresh_0
  refine g_aload_n dX10_fresh_0 rfl ?_
  refine g_gfI fi_10_199 hr0 dX10_fresh_1 ?_
  refine g_if_eq (tgt := 9) dX10_fresh_4 (by decide) (fun c_1 => ?_) (fun c_1 => ?_)
  · have h := h.1 c_1
    refine g_aload_n dX10_fresh_9 rfl ?_
    refine g_gfI fi_10_164 hr0 dX10_fresh_10 ?_
    refine g_iconst (1 : Int32) dX10_fresh_13 rfl ?_
    refine g_icmp_eq (tgt := 25) dX10_fresh_14 (by decide) (fun c_2 => ?_) (fun c_2 => ?_)
    · have h := h.1 c_2
      refine g_aload_n dX10_fresh_25 rfl ?_
      refine g_iload_n dX10_fresh_26 rfl ?_
      refine g_iload_n dX10_fresh_27 rfl ?_
      refine g_aload_n dX10_fresh_28 rfl ?_
      refine g_gfI fi_10_174 hr0 dX10_fresh_29 ?_
      obtain ⟨d_3, q_4, hd_5, hc_6, h⟩ := h
      refine g_callS ca_X10_211 hc_6 hd_5 (by decide) rfl rfl (by first | exact Nat.le_of_ble_eq_true rfl | decide) dX10_fresh_32 (kI (fun v_8 μ_7 hq_9 => ?_))
      have h := h v_8 μ_7 hq_9
      refine g_iconst (-1 : Int32) dX10_fresh_35 rfl ?_
      refine g_icmp_eq (tgt := 44) dX10_fresh_36 (by decide) (fun c_10 => ?_) (fun c_10 => ?_)
      · have h := h.1 c_10
        exact g_sub [0] rfl h
      · have h := h.2 c_10
        refine g_aload_n dX10_fresh_39 rfl ?_
        refine g_iconst (3 : Int32) dX10_fresh_40 rfl ?_
        obtain ⟨d_11, q_12, hd_13, hc_14, h⟩ := h
        refine g_cV ca_X10_208 ob_10 hc_14 hd_13 (by decide) hr0 rfl rfl (by first | exact Nat.le_of_ble_eq_true rfl | decide) dX10_fresh_41 (kV (fun μ_15 hq_17 => ?_))
        have h := h μ_15 hq_17
        exact g_sub [0] rfl h
    · have h := h.2 c_2
      refine g_aload_n dX10_fresh_17 rfl ?_
      refine g_iconst (1 : Int32) dX10_fresh_18 rfl ?_
      obtain ⟨d_18, q_19, hd_20, hc_21, h⟩ := h
      refine g_cV ca_X10_208 ob_10 hc_21 hd_20 (by decide) hr0 rfl rfl (by first | exact Nat.le_of_ble_eq_true rfl | decide) dX10_fresh_19 (kV (fun μ_22 hq_24 => ?_))
      have h := h μ_22 hq_24
      refine g_goto (tgt := 44) dX10_fresh_22 (by decide) ?_
      exact g_sub [0] rfl h
  · have h := h.2 c_1
    refine g_iconst (0 : Int32) dX10_fresh_7 rfl ?_
    exact g_iret dX10_fresh_8 rfl rfl ⟨_, rfl, h⟩
set_option maxRecDepth 20000 in
set_option maxHeartbeats 4000000 in
theorem bl_X10_fresh_1 {l : Launch} {D : gD} {d : Nat} {q : Int32 → gMem → Prop} {Γ : gC} {r0 : Nat} {μ : gMem} (hr0 : r0 < 1) (h : (((μ.1 10 r0 24) = 0) → ∀ x4_2 : Int32, x4_2 = μ.1 10 r0 23 → ∃ (d_3 : Nat) (q_4 : gMem → Prop), d_3 < d ∧ Ctr l D d_3 yX10_token cX10_token 2 none [.ref (D.2.2 10 r0)] μ (pV q_4) ∧ ∀ (μ_7 : gMem), q_4 μ_7 → q x4_2 μ_7) ∧ ((¬ (μ.1 10 r0 24) = 0) → q (0 : Int32) μ)) : pt_X10_fresh_1 l D d q Γ r0 μ := by
  unfold pt_X10_fresh_1
  refine g_aload_n dX10_fresh_44 rfl ?_
  refine g_gfI fi_10_199 hr0 dX10_fresh_45 ?_
  refine g_if_eq (tgt := 53) dX10_fresh_48 (by decide) (fun c_1 => ?_) (fun c_1 => ?_)
  · have h := h.1 c_1
    refine g_aload_n dX10_fresh_53 rfl ?_
    refine g_gfI fi_10_174 hr0 dX10_fresh_54 ?_
    refine g_istore dX10_fresh_57 (by decide) (fun x4_2 ex4_2 => g_sub (lv' := [(0, .ref (D.2.2 10 r0)), (4, .int x4_2)]) [1, 0] rfl ?_)
    have h := h x4_2 ex4_2
    refine g_aload_n dX10_fresh_59 rfl ?_
    obtain ⟨d_3, q_4, hd_5, hc_6, h⟩ := h
    refine g_cV ca_X10_205 ob_10 hc_6 hd_5 (by decide) hr0 rfl rfl (by first | exact Nat.le_of_ble_eq_true rfl | decide) dX10_fresh_60 (kV (fun μ_7 hq_9 => ?_))
    have h := h μ_7 hq_9
    refine g_iload dX10_fresh_63 rfl ?_
    exact g_iret dX10_fresh_65 rfl rfl ⟨_, rfl, h⟩
  · have h := h.2 c_1
    refine g_iconst (0 : Int32) dX10_fresh_51 rfl ?_
    exact g_iret dX10_fresh_52 rfl rfl ⟨_, rfl, h⟩
theorem en_X10_fresh {l : Launch} {D : gD} {d : Nat} {q : Int32 → gMem → Prop} {r0 : Nat} {k1 : Nat} {i1 : Nat} {x2 : Int32} {x3 : Int32} {μ : gMem} (h : ∀ Γ : gC, pt_X10_fresh_0 l D d q Γ r0 k1 i1 x2 x3 μ) : Ctr l D d yX10_fresh cX10_fresh 5 (some .int) [.ref (D.2.2 10 r0), .ref (D.2.2 k1 i1), .int x2, .int x3] μ (pI q) :=
  Ctr_of rfl (by decide) (Nat.le_of_ble_eq_true rfl) (fun Γ => g_sub [0, 1, 2, 3] rfl (h Γ))
def pt_X10_toldAhead_0 (l : Launch) (D : gD) (d : Nat) (q : Int32 → gMem → Prop) (Γ : gC) (r0 : Nat) (k1 : Nat) (i1 : Nat) (x2 : Int32) (x3 : Int32) (μ : gMem) : Prop := G l D RX10 cX10_toldAhead 4 (some .int) d (pI q) Γ 0 [(0, .ref (D.2.2 10 r0)), (1, .ref (D.2.2 k1 i1)), (2, .int x2), (3, .int x3)] [] μ
def pt_X10_toldAhead_1 (l : Launch) (D : gD) (d : Nat) (q : Int32 → gMem → Prop) (Γ : gC) (r0 : Nat) (k1 : Nat) (i1 : Nat) (x2 : Int32) (x3 : Int32) (μ : gMem) : Prop := G l D RX10 cX10_toldAhead 4 (some .int) d (pI q) Γ 44 [(0, .ref (D.2.2 10 r0)), (1, .ref (D.2.2 k1 i1)), (2, .int x2), (3, .int x3)] [] μ
set_option maxRecDepth 20000 in
set_option maxHeartbeats 4000000 in
theorem bl_X10_toldAhead_0 {l : Launch} {D : gD} {d : Nat} {q : Int32 → gMem → Prop} {Γ : gC} {r0 : Nat} {k1 : Nat} {i1 : Nat} {x2 : Int32} {x3 : Int32} {μ : gMem} (hr0 : r0 < 1) (hk1 : gsh k1 = (1, (gsh k1).2.1, 0)) (hi1 : i1 < gkn k1) (h : (((μ.1 10 r0 24) = 0) → (((μ.1 10 r0 22) = (1 : Int32)) → ∃ (d_3 : Nat) (q_4 : Int32 → gMem → Prop), d_3 < d ∧ Ctr l D d_3 yX10_found cX10_found 5 (some .int) [.ref (D.2.2 k1 i1), .int x2, .int x3, .int (μ.1 10 r0 23)] μ (pI q_4) ∧ ∀ (v_8 : Int32) (μ_7 : gMem), q_4 v_8 μ_7 → ((¬ v_8 = (-1 : Int32)) → pt_X10_toldAhead_1 l D d q Γ r0 k1 i1 x2 x3 μ_7) ∧ ((v_8 = (-1 : Int32)) → ∃ (d_11 : Nat) (q_12 : gMem → Prop), d_11 < d ∧ Ctr l D d_11 yX10_wrong cX10_wrong 2 none [.ref (D.2.2 10 r0), .int (4 : Int32)] μ_7 (pV q_12) ∧ ∀ (μ_15 : gMem), q_12 μ_15 → pt_X10_toldAhead_1 l D d q Γ r0 k1 i1 x2 x3 μ_15)) ∧ ((¬ (μ.1 10 r0 22) = (1 : Int32)) → ∃ (d_18 : Nat) (q_19 : gMem → Prop), d_18 < d ∧ Ctr l D d_18 yX10_wrong cX10_wrong 2 none [.ref (D.2.2 10 r0), .int (1 : Int32)] μ (pV q_19) ∧ ∀ (μ_22 : gMem), q_19 μ_22 → pt_X10_toldAhead_1 l D d q Γ r0 k1 i1 x2 x3 μ_22)) ∧ ((¬ (μ.1 10 r0 24) = 0) → q (0 : Int32) μ)) : pt_X10_toldAhead_0 l D d q Γ r0 k1 i1 x2 x3 μ := by
  unfold pt_X10_toldAhead_0
  refine g_aload_n dX10_toldAhead_0 rfl ?_
  refine g_gfI fi_10_199 hr0 dX10_toldAhead_1 ?_
  refine g_if_eq (tgt := 9) dX10_toldAhead_4 (by decide) (fun c_1 => ?_) (fun c_1 => ?_)
  · have h := h.1 c_1
    refine g_aload_n dX10_toldAhead_9 rfl ?_
    refine g_gfI fi_10_164 hr0 dX10_toldAhead_10 ?_
    refine g_iconst (1 : Int32) dX10_toldAhead_13 rfl ?_
    refine g_icmp_eq (tgt := 25) dX10_toldAhead_14 (by decide) (fun c_2 => ?_) (fun c_2 => ?_)
    · have h := h.1 c_2
      refine g_aload_n dX10_toldAhead_25 rfl ?_
      refine g_iload_n dX10_toldAhead_26 rfl ?_
      refine g_iload_n dX10_toldAhead_27 rfl ?_
      refine g_aload_n dX10_toldAhead_28 rfl ?_
      refine g_gfI fi_10_174 hr0 dX10_toldAhead_29 ?_
      obtain ⟨d_3, q_4, hd_5, hc_6, h⟩ := h
      refine g_callS ca_X10_211 hc_6 hd_5 (by decide) rfl rfl (by first | exact Nat.le_of_ble_eq_true rfl | decide) dX10_toldAhead_32 (kI (fun v_8 μ_7 hq_9 => ?_))
      have h := h v_8 μ_7 hq_9
      refine g_iconst (-1 : Int32) dX10_toldAhead_35 rfl ?_
      refine g_icmp_ne (tgt := 44) dX10_toldAhead_36 (by decide) (fun c_10 => ?_) (fun c_10 => ?_)
      · have h := h.1 c_10
        exact g_sub [0, 1, 2, 3] rfl h
      · have h := h.2 c_10
        refine g_aload_n dX10_toldAhead_39 rfl ?_
        refine g_iconst (4 : Int32) dX10_toldAhead_40 rfl ?_
        obtain ⟨d_11, q_12, hd_13, hc_14, h⟩ := h
        refine g_cV ca_X10_208 ob_10 hc_14 hd_13 (by decide) hr0 rfl rfl (by first | exact Nat.le_of_ble_eq_true rfl | decide) dX10_toldAhead_41 (kV (fun μ_15 hq_17 => ?_))
        have h := h μ_15 hq_17
        exact g_sub [0, 1, 2, 3] rfl h
    · have h := h.2 c_2
      refine g_aload_n dX10_toldAhead_17 rfl ?_
      refine g_iconst (1 : Int32) dX10_toldAhead_18 rfl ?_
      obtain ⟨d_18, q_19, hd_20, hc_21, h⟩ := h
      refine g_cV ca_X10_208 ob_10 hc_21 hd_20 (by decide) hr0 rfl rfl (by first | exact Nat.le_of_ble_eq_true rfl | decide) dX10_toldAhead_19 (kV (fun μ_22 hq_24 => ?_))
      have h := h μ_22 hq_24
      refine g_goto (tgt := 44) dX10_toldAhead_22 (by decide) ?_
      exact g_sub [0, 1, 2, 3] rfl h
  · have h := h.2 c_1
    refine g_iconst (0 : Int32) dX10_toldAhead_7 rfl ?_
    exact g_iret dX10_toldAhead_8 rfl rfl ⟨_, rfl, h⟩
set_option maxRecDepth 20000 in
set_option maxHeartbeats 4000000 in
theorem bl_X10_toldAhead_1 {l : Launch} {D : gD} {d : Nat} {q : Int32 → gMem → Prop} {Γ : gC} {r0 : Nat} {k1 : Nat} {i1 : Nat} {x2 : Int32} {x3 : Int32} {μ : gMem} (hr0 : r0 < 1) (hk1 : gsh k1 = (1, (gsh k1).2.1, 0)) (hi1 : i1 < gkn k1) (h : (((μ.1 10 r0 24) = 0) → ∃ (d_2 : Nat) (q_3 : Int32 → gMem → Prop), d_2 < d ∧ Ctr l D d_2 yX10_found cX10_found 5 (some .int) [.ref (D.2.2 k1 i1), .int x2, .int x3, .int (μ.1 10 r0 23)] μ (pI q_3) ∧ ∀ (v_7 : Int32) (μ_6 : gMem), q_3 v_7 μ_6 → q v_7 μ_6) ∧ ((¬ (μ.1 10 r0 24) = 0) → q (0 : Int32) μ)) : pt_X10_toldAhead_1 l D d q Γ r0 k1 i1 x2 x3 μ := by
  unfold pt_X10_toldAhead_1
  refine g_aload_n dX10_toldAhead_44 rfl ?_
  refine g_gfI fi_10_199 hr0 dX10_toldAhead_45 ?_
  refine g_if_eq (tgt := 55) dX10_toldAhead_48 (by decide) (fun c_1 => ?_) (fun c_1 => ?_)
  · have h := h.1 c_1
    refine g_aload_n dX10_toldAhead_55 rfl ?_
    refine g_iload_n dX10_toldAhead_56 rfl ?_
    refine g_iload_n dX10_toldAhead_57 rfl ?_
    refine g_aload_n dX10_toldAhead_58 rfl ?_
    refine g_gfI fi_10_174 hr0 dX10_toldAhead_59 ?_
    obtain ⟨d_2, q_3, hd_4, hc_5, h⟩ := h
    refine g_callS ca_X10_211 hc_5 hd_4 (by decide) rfl rfl (by first | exact Nat.le_of_ble_eq_true rfl | decide) dX10_toldAhead_62 (kI (fun v_7 μ_6 hq_8 => ?_))
    have h := h v_7 μ_6 hq_8
    exact g_iret dX10_toldAhead_65 rfl rfl ⟨_, rfl, h⟩
  · have h := h.2 c_1
    refine g_iconst (0 : Int32) dX10_toldAhead_51 rfl ?_
    refine g_goto (tgt := 65) dX10_toldAhead_52 (by decide) ?_
    exact g_iret dX10_toldAhead_65 rfl rfl ⟨_, rfl, h⟩
theorem en_X10_toldAhead {l : Launch} {D : gD} {d : Nat} {q : Int32 → gMem → Prop} {r0 : Nat} {k1 : Nat} {i1 : Nat} {x2 : Int32} {x3 : Int32} {μ : gMem} (h : ∀ Γ : gC, pt_X10_toldAhead_0 l D d q Γ r0 k1 i1 x2 x3 μ) : Ctr l D d yX10_toldAhead cX10_toldAhead 4 (some .int) [.ref (D.2.2 10 r0), .ref (D.2.2 k1 i1), .int x2, .int x3] μ (pI q) :=
  Ctr_of rfl (by decide) (Nat.le_of_ble_eq_true rfl) (fun Γ => g_sub [0, 1, 2, 3] rfl (h Γ))
def pt_X10_isFull_0 (l : Launch) (D : gD) (d : Nat) (q : Int32 → gMem → Prop) (Γ : gC) (r0 : Nat) (x1 : Int32) (μ : gMem) : Prop := G l D RX10 cX10_isFull 2 (some .boolean) d (pI q) Γ 0 [(0, .ref (D.2.2 10 r0)), (1, .int x1)] [] μ
def pt_X10_isFull_1 (l : Launch) (D : gD) (d : Nat) (q : Int32 → gMem → Prop) (Γ : gC) (r0 : Nat) (x1 : Int32) (μ : gMem) : Prop := G l D RX10 cX10_isFull 2 (some .boolean) d (pI q) Γ 13 [(0, .ref (D.2.2 10 r0)), (1, .int x1)] [] μ
def pt_X10_isFull_2 (l : Launch) (D : gD) (d : Nat) (q : Int32 → gMem → Prop) (Γ : gC) (r0 : Nat) (x1 : Int32) (μ : gMem) : Prop := G l D RX10 cX10_isFull 2 (some .boolean) d (pI q) Γ 28 [(0, .ref (D.2.2 10 r0)), (1, .int x1)] [] μ
def pt_X10_isFull_3 (l : Launch) (D : gD) (d : Nat) (q : Int32 → gMem → Prop) (Γ : gC)  (μ : gMem) : Prop := G l D RX10 cX10_isFull 2 (some .boolean) d (pI q) Γ 43 [] [] μ
set_option maxRecDepth 20000 in
set_option maxHeartbeats 4000000 in
theorem bl_X10_isFull_0 {l : Launch} {D : gD} {d : Nat} {q : Int32 → gMem → Prop} {Γ : gC} {r0 : Nat} {x1 : Int32} {μ : gMem} (hr0 : r0 < 1) (h : ((¬ x1 = 0) → pt_X10_isFull_1 l D d q Γ r0 x1 μ) ∧ ((x1 = 0) → (0 < d) ∧ ((((μ.1 707 r0 10) = (5 : Int32)) → pt_X10_isFull_3 l D d q Γ  μ) ∧ ((¬ (μ.1 707 r0 10) = (5 : Int32)) → pt_X10_isFull_1 l D d q Γ r0 x1 μ)))) : pt_X10_isFull_0 l D d q Γ r0 x1 μ := by
  unfold pt_X10_isFull_0
  refine g_iload_n dX10_isFull_0 rfl ?_
  refine g_if_ne (tgt := 13) dX10_isFull_1 (by decide) (fun c_1 => ?_) (fun c_1 => ?_)
  · have h := h.1 c_1
    exact g_sub [0, 1] rfl h
  · have h := h.2 c_1
    refine g_aload_n dX10_isFull_4 rfl ?_
    refine g_iconst (0 : Int32) dX10_isFull_5 rfl ?_
    obtain ⟨hd_2, h⟩ := h
    refine g_cV ca_X10_215 ob_10 (c_X10_fresher (d := 0) (Nat.le_refl _) hr0 (n := 0) (by decide) rfl) hd_2 (by decide) hr0 rfl rfl (by first | exact Nat.le_of_ble_eq_true rfl | decide) dX10_isFull_6 (kI (fun v_3 μ_4 hq_5 => ?_))
    obtain ⟨ev_3, eμ_4⟩ := hq_5
    subst ev_3
    refine g_mem eμ_4 ?_
    refine g_iconst (5 : Int32) dX10_isFull_9 rfl ?_
    refine g_icmp_eq (tgt := 43) dX10_isFull_10 (by decide) (fun c_6 => ?_) (fun c_6 => ?_)
    · have h := h.1 c_6
      exact g_sub [] rfl h
    · have h := h.2 c_6
      exact g_sub [0, 1] rfl h
set_option maxRecDepth 20000 in
set_option maxHeartbeats 4000000 in
theorem bl_X10_isFull_1 {l : Launch} {D : gD} {d : Nat} {q : Int32 → gMem → Prop} {Γ : gC} {r0 : Nat} {x1 : Int32} {μ : gMem} (hr0 : r0 < 1) (h : ((¬ x1 = (1 : Int32)) → pt_X10_isFull_2 l D d q Γ r0 x1 μ) ∧ ((x1 = (1 : Int32)) → (0 < d) ∧ ((((μ.1 707 r0 11) = (6 : Int32)) → pt_X10_isFull_3 l D d q Γ  μ) ∧ ((¬ (μ.1 707 r0 11) = (6 : Int32)) → pt_X10_isFull_2 l D d q Γ r0 x1 μ)))) : pt_X10_isFull_1 l D d q Γ r0 x1 μ := by
  unfold pt_X10_isFull_1
  refine g_iload_n dX10_isFull_13 rfl ?_
  refine g_iconst (1 : Int32) dX10_isFull_14 rfl ?_
  refine g_icmp_ne (tgt := 28) dX10_isFull_15 (by decide) (fun c_1 => ?_) (fun c_1 => ?_)
  · have h := h.1 c_1
    exact g_sub [0, 1] rfl h
  · have h := h.2 c_1
    refine g_aload_n dX10_isFull_18 rfl ?_
    refine g_iconst (1 : Int32) dX10_isFull_19 rfl ?_
    obtain ⟨hd_2, h⟩ := h
    refine g_cV ca_X10_215 ob_10 (c_X10_fresher (d := 0) (Nat.le_refl _) hr0 (n := 1) (by decide) rfl) hd_2 (by decide) hr0 rfl rfl (by first | exact Nat.le_of_ble_eq_true rfl | decide) dX10_isFull_20 (kI (fun v_3 μ_4 hq_5 => ?_))
    obtain ⟨ev_3, eμ_4⟩ := hq_5
    subst ev_3
    refine g_mem eμ_4 ?_
    refine g_bipush (6 : Int32) dX10_isFull_23 rfl ?_
    refine g_icmp_eq (tgt := 43) dX10_isFull_25 (by decide) (fun c_6 => ?_) (fun c_6 => ?_)
    · have h := h.1 c_6
      exact g_sub [] rfl h
    · have h := h.2 c_6
      exact g_sub [0, 1] rfl h
set_option maxRecDepth 20000 in
set_option maxHeartbeats 4000000 in
theorem bl_X10_isFull_2 {l : Launch} {D : gD} {d : Nat} {q : Int32 → gMem → Prop} {Γ : gC} {r0 : Nat} {x1 : Int32} {μ : gMem} (hr0 : r0 < 1) (h : ((¬ x1 = (2 : Int32)) → q (0 : Int32) μ) ∧ ((x1 = (2 : Int32)) → (0 < d) ∧ (((¬ (μ.1 707 r0 12) = (12 : Int32)) → q (0 : Int32) μ) ∧ (((μ.1 707 r0 12) = (12 : Int32)) → pt_X10_isFull_3 l D d q Γ  μ)))) : pt_X10_isFull_2 l D d q Γ r0 x1 μ := by
  unfold pt_X10_isFull_2
  refine g_iload_n dX10_isFull_28 rfl ?_
  refine g_iconst (2 : Int32) dX10_isFull_29 rfl ?_
  refine g_icmp_ne (tgt := 47) dX10_isFull_30 (by decide) (fun c_1 => ?_) (fun c_1 => ?_)
  · have h := h.1 c_1
    refine g_iconst (0 : Int32) dX10_isFull_47 rfl ?_
    exact g_iret dX10_isFull_48 rfl rfl ⟨_, rfl, h⟩
  · have h := h.2 c_1
    refine g_aload_n dX10_isFull_33 rfl ?_
    refine g_iconst (2 : Int32) dX10_isFull_34 rfl ?_
    obtain ⟨hd_2, h⟩ := h
    refine g_cV ca_X10_215 ob_10 (c_X10_fresher (d := 0) (Nat.le_refl _) hr0 (n := 2) (by decide) rfl) hd_2 (by decide) hr0 rfl rfl (by first | exact Nat.le_of_ble_eq_true rfl | decide) dX10_isFull_35 (kI (fun v_3 μ_4 hq_5 => ?_))
    obtain ⟨ev_3, eμ_4⟩ := hq_5
    subst ev_3
    refine g_mem eμ_4 ?_
    refine g_bipush (12 : Int32) dX10_isFull_38 rfl ?_
    refine g_icmp_ne (tgt := 47) dX10_isFull_40 (by decide) (fun c_6 => ?_) (fun c_6 => ?_)
    · have h := h.1 c_6
      refine g_iconst (0 : Int32) dX10_isFull_47 rfl ?_
      exact g_iret dX10_isFull_48 rfl rfl ⟨_, rfl, h⟩
    · have h := h.2 c_6
      exact g_sub [] rfl h
set_option maxRecDepth 20000 in
set_option maxHeartbeats 4000000 in
theorem bl_X10_isFull_3 {l : Launch} {D : gD} {d : Nat} {q : Int32 → gMem → Prop} {Γ : gC}  {μ : gMem}  (h : q (1 : Int32) μ) : pt_X10_isFull_3 l D d q Γ  μ := by
  unfold pt_X10_isFull_3
  refine g_iconst (1 : Int32) dX10_isFull_43 rfl ?_
  refine g_goto (tgt := 48) dX10_isFull_44 (by decide) ?_
  exact g_iret dX10_isFull_48 rfl rfl ⟨_, rfl, h⟩
theorem en_X10_isFull {l : Launch} {D : gD} {d : Nat} {q : Int32 → gMem → Prop} {r0 : Nat} {x1 : Int32} {μ : gMem} (h : ∀ Γ : gC, pt_X10_isFull_0 l D d q Γ r0 x1 μ) : Ctr l D d yX10_isFull cX10_isFull 2 (some .boolean) [.ref (D.2.2 10 r0), .int x1] μ (pI q) :=
  Ctr_of rfl (by decide) (Nat.le_of_ble_eq_true rfl) (fun Γ => g_sub [0, 1] rfl (h Γ))
def pt_X10_line_0 (l : Launch) (D : gD) (d : Nat) (q : gMem → Prop) (Γ : gC) (r0 : Nat) (μ : gMem) : Prop := G l D RX10 cX10_line 4 none d (pV q) Γ 0 [(0, .ref (D.2.2 10 r0))] [] μ
def pt_X10_line_1 (l : Launch) (D : gD) (d : Nat) (q : gMem → Prop) (Γ : gC) (r0 : Nat) (μ : gMem) : Prop := G l D RX10 cX10_line 4 none d (pV q) Γ 16 [(0, .ref (D.2.2 10 r0))] [] μ
def pt_X10_line_2 (l : Launch) (D : gD) (d : Nat) (q : gMem → Prop) (Γ : gC) (r0 : Nat) (x1 : Int32) (μ : gMem) : Prop := G l D RX10 cX10_line 4 none d (pV q) Γ 71 [(0, .ref (D.2.2 10 r0)), (1, .int x1)] [] μ
def pt_X10_line_3 (l : Launch) (D : gD) (d : Nat) (q : gMem → Prop) (Γ : gC) (r0 : Nat) (μ : gMem) : Prop := G l D RX10 cX10_line 4 none d (pV q) Γ 406 [(0, .ref (D.2.2 10 r0))] [] μ
def pt_X10_line_4 (l : Launch) (D : gD) (d : Nat) (q : gMem → Prop) (Γ : gC) (r0 : Nat) (μ : gMem) : Prop := G l D RX10 cX10_line 4 none d (pV q) Γ 435 [(0, .ref (D.2.2 10 r0))] [] μ
set_option maxRecDepth 20000 in
set_option maxHeartbeats 4000000 in
theorem bl_X10_line_0 {l : Launch} {D : gD} {d : Nat} {q : gMem → Prop} {Γ : gC} {r0 : Nat} {μ : gMem} (hr0 : r0 < 1) (h : ((¬ (μ.1 10 r0 22) = 0) → pt_X10_line_1 l D d q Γ r0 μ) ∧ (((μ.1 10 r0 22) = 0) → (((μ.1 10 r0 23) ≤ (7 : Int32)) → ∀ x1_3 : Int32, x1_3 = μ.1 10 r0 23 → ∃ (d_4 : Nat) (q_5 : Int32 → gMem → Prop), d_4 < d ∧ Ctr l D d_4 yX10_isFull cX10_isFull 2 (some .boolean) [.ref (D.2.2 10 r0), .int x1_3] μ (pI q_5) ∧ ∀ (v_9 : Int32) (μ_8 : gMem), q_5 v_9 μ_8 → ((v_9 = 0) → ((x1_3 < (3 : Int32)) → pt_X10_line_2 l D d q Γ r0 x1_3 μ_8) ∧ ((¬ x1_3 < (3 : Int32)) → (((6 : Int32) < x1_3) → pt_X10_line_2 l D d q Γ r0 x1_3 μ_8) ∧ ((¬ (6 : Int32) < x1_3) → ((¬ (((μ_8.1 10 r0 17) >>> (x1_3 &&& 31)) &&& (1 : Int32)) = (1 : Int32)) → pt_X10_line_2 l D d q Γ r0 x1_3 μ_8) ∧ (((((μ_8.1 10 r0 17) >>> (x1_3 &&& 31)) &&& (1 : Int32)) = (1 : Int32)) → ∃ (d_15 : Nat) (q_16 : gMem → Prop), d_15 < d ∧ Ctr l D d_15 yX10_wrong cX10_wrong 2 none [.ref (D.2.2 10 r0), .int (3 : Int32)] μ_8 (pV q_16) ∧ ∀ (μ_19 : gMem), q_16 μ_19 → pt_X10_line_2 l D d q Γ r0 x1_3 μ_19)))) ∧ ((¬ v_9 = 0) → ∃ (d_22 : Nat) (q_23 : gMem → Prop), d_22 < d ∧ Ctr l D d_22 yX10_wrong cX10_wrong 2 none [.ref (D.2.2 10 r0), .int (2 : Int32)] μ_8 (pV q_23) ∧ ∀ (μ_26 : gMem), q_23 μ_26 → pt_X10_line_2 l D d q Γ r0 x1_3 μ_26)) ∧ ((¬ (μ.1 10 r0 23) ≤ (7 : Int32)) → pt_X10_line_1 l D d q Γ r0 μ))) : pt_X10_line_0 l D d q Γ r0 μ := by
  unfold pt_X10_line_0
  refine g_aload_n dX10_line_0 rfl ?_
  refine g_gfI fi_10_164 hr0 dX10_line_1 ?_
  refine g_if_ne (tgt := 16) dX10_line_4 (by decide) (fun c_1 => ?_) (fun c_1 => ?_)
  · have h := h.1 c_1
    exact g_sub [0] rfl h
  · have h := h.2 c_1
    refine g_aload_n dX10_line_7 rfl ?_
    refine g_gfI fi_10_174 hr0 dX10_line_8 ?_
    refine g_bipush (7 : Int32) dX10_line_11 rfl ?_
    refine g_icmp_le (tgt := 22) dX10_line_13 (by decide) (fun c_2 => ?_) (fun c_2 => ?_)
    · have h := h.1 c_2
      refine g_aload_n dX10_line_22 rfl ?_
      refine g_gfI fi_10_174 hr0 dX10_line_23 ?_
      refine g_istore_n dX10_line_26 (by decide) (fun x1_3 ex1_3 => g_sub (lv' := [(0, .ref (D.2.2 10 r0)), (1, .int x1_3)]) [1, 0] rfl ?_)
      have h := h x1_3 ex1_3
      refine g_aload_n dX10_line_27 rfl ?_
      refine g_iload_n dX10_line_28 rfl ?_
      obtain ⟨d_4, q_5, hd_6, hc_7, h⟩ := h
      refine g_cV ca_X10_219 ob_10 hc_7 hd_6 (by decide) hr0 rfl rfl (by first | exact Nat.le_of_ble_eq_true rfl | decide) dX10_line_29 (kI (fun v_9 μ_8 hq_10 => ?_))
      have h := h v_9 μ_8 hq_10
      refine g_if_eq (tgt := 43) dX10_line_32 (by decide) (fun c_11 => ?_) (fun c_11 => ?_)
      · have h := h.1 c_11
        refine g_iload_n dX10_line_43 rfl ?_
        refine g_iconst (3 : Int32) dX10_line_44 rfl ?_
        refine g_icmp_lt (tgt := 71) dX10_line_45 (by decide) (fun c_12 => ?_) (fun c_12 => ?_)
        · have h := h.1 c_12
          exact g_sub [0, 1] rfl h
        · have h := h.2 c_12
          refine g_iload_n dX10_line_48 rfl ?_
          refine g_bipush (6 : Int32) dX10_line_49 rfl ?_
          refine g_icmp_gt (tgt := 71) dX10_line_51 (by decide) (fun c_13 => ?_) (fun c_13 => ?_)
          · have h := h.1 c_13
            exact g_sub [0, 1] rfl h
          · have h := h.2 c_13
            refine g_aload_n dX10_line_54 rfl ?_
            refine g_gfI fi_10_222 hr0 dX10_line_55 ?_
            refine g_iload_n dX10_line_58 rfl ?_
            refine g_ishr dX10_line_59 ?_
            refine g_iconst (1 : Int32) dX10_line_60 rfl ?_
            refine g_iand dX10_line_61 ?_
            refine g_iconst (1 : Int32) dX10_line_62 rfl ?_
            refine g_icmp_ne (tgt := 71) dX10_line_63 (by decide) (fun c_14 => ?_) (fun c_14 => ?_)
            · have h := h.1 c_14
              exact g_sub [0, 1] rfl h
            · have h := h.2 c_14
              refine g_aload_n dX10_line_66 rfl ?_
              refine g_iconst (3 : Int32) dX10_line_67 rfl ?_
              obtain ⟨d_15, q_16, hd_17, hc_18, h⟩ := h
              refine g_cV ca_X10_208 ob_10 hc_18 hd_17 (by decide) hr0 rfl rfl (by first | exact Nat.le_of_ble_eq_true rfl | decide) dX10_line_68 (kV (fun μ_19 hq_21 => ?_))
              have h := h μ_19 hq_21
              exact g_sub [0, 1] rfl h
      · have h := h.2 c_11
        refine g_aload_n dX10_line_35 rfl ?_
        refine g_iconst (2 : Int32) dX10_line_36 rfl ?_
        obtain ⟨d_22, q_23, hd_24, hc_25, h⟩ := h
        refine g_cV ca_X10_208 ob_10 hc_25 hd_24 (by decide) hr0 rfl rfl (by first | exact Nat.le_of_ble_eq_true rfl | decide) dX10_line_37 (kV (fun μ_26 hq_28 => ?_))
        have h := h μ_26 hq_28
        refine g_goto (tgt := 71) dX10_line_40 (by decide) ?_
        exact g_sub [0, 1] rfl h
    · have h := h.2 c_2
      exact g_sub [0] rfl h
set_option maxRecDepth 20000 in
set_option maxHeartbeats 4000000 in
theorem bl_X10_line_1 {l : Launch} {D : gD} {d : Nat} {q : gMem → Prop} {Γ : gC} {r0 : Nat} {μ : gMem} (hr0 : r0 < 1) (h : ∃ (d_1 : Nat) (q_2 : gMem → Prop), d_1 < d ∧ Ctr l D d_1 yX10_wrong cX10_wrong 2 none [.ref (D.2.2 10 r0), .int (1 : Int32)] μ (pV q_2) ∧ ∀ (μ_5 : gMem), q_2 μ_5 → q μ_5) : pt_X10_line_1 l D d q Γ r0 μ := by
  unfold pt_X10_line_1
  refine g_aload_n dX10_line_16 rfl ?_
  refine g_iconst (1 : Int32) dX10_line_17 rfl ?_
  obtain ⟨d_1, q_2, hd_3, hc_4, h⟩ := h
  refine g_cV ca_X10_208 ob_10 hc_4 hd_3 (by decide) hr0 rfl rfl (by first | exact Nat.le_of_ble_eq_true rfl | decide) dX10_line_18 (kV (fun μ_5 hq_7 => ?_))
  have h := h μ_5 hq_7
  exact g_vret dX10_line_21 rfl ⟨rfl, h⟩
set_option maxRecDepth 20000 in
set_option maxHeartbeats 4000000 in
theorem bl_X10_line_2 {l : Launch} {D : gD} {d : Nat} {q : gMem → Prop} {Γ : gC} {r0 : Nat} {x1 : Int32} {μ : gMem} (hr0 : r0 < 1) (h : (((μ.1 10 r0 24) = 0) → ∀ μ_2 : gMem, μ_2 = gsI μ 10 r0 17 ((μ.1 10 r0 17) ||| ((1 : Int32) <<< (x1 &&& 31))) → ∃ (d_3 : Nat) (q_4 : gMem → Prop), d_3 < d ∧ Ctr l D d_3 yX10_token cX10_token 2 none [.ref (D.2.2 10 r0)] μ_2 (pV q_4) ∧ ∀ (μ_7 : gMem), q_4 μ_7 → (x1 = (0 : Int32) → (0 < d) ∧ (∀ x2_15 : Int32, x2_15 = (5 : Int32) + (μ_7.1 707 r0 10) → (0 < d) ∧ (∃ (d_20 : Nat) (q_21 : Int32 → gMem → Prop), d_20 < d ∧ Ctr l D d_20 yX10_fresh cX10_fresh 5 (some .int) [.ref (D.2.2 10 r0), .ref (D.2.2 708 r0), .int (5 : Int32), .int (μ_7.1 707 r0 10)] μ_7 (pI q_21) ∧ ∀ (v_25 : Int32) (μ_24 : gMem), q_21 v_25 μ_24 → ∃ j_27 : Nat, j_27 < 10 ∧ x2_15 = nI j_27 ∧ (∀ μ_28 : gMem, μ_28 = gsI μ_24 708 r0 j_27 v_25 → ∃ (d_29 : Nat) (q_30 : Int32 → gMem → Prop), d_29 < d ∧ Ctr l D d_29 yX10_numeral cX10_numeral 4 (some .int) [.ref (D.2.2 10 r0), .int (0 : Int32), .int (99 : Int32)] μ_28 (pI q_30) ∧ ∀ (v_34 : Int32) (μ_33 : gMem), q_30 v_34 μ_33 → ∃ j_36 : Nat, j_36 < 10 ∧ x2_15 = nI j_36 ∧ (∀ μ_37 : gMem, μ_37 = gsI μ_33 709 r0 j_36 v_34 → ∃ (d_38 : Nat) (q_39 : Int32 → gMem → Prop), d_38 < d ∧ Ctr l D d_38 yX10_numeral cX10_numeral 4 (some .int) [.ref (D.2.2 10 r0), .int (0 : Int32), .int (99 : Int32)] μ_37 (pI q_39) ∧ ∀ (v_43 : Int32) (μ_42 : gMem), q_39 v_43 μ_42 → ∃ j_45 : Nat, j_45 < 10 ∧ x2_15 = nI j_45 ∧ (∀ μ_46 : gMem, μ_46 = gsI μ_42 710 r0 j_45 v_43 → ∃ (d_47 : Nat) (q_48 : Int32 → gMem → Prop), d_47 < d ∧ Ctr l D d_47 yX10_numeral cX10_numeral 4 (some .int) [.ref (D.2.2 10 r0), .int (0 : Int32), .int (99 : Int32)] μ_46 (pI q_48) ∧ ∀ (v_52 : Int32) (μ_51 : gMem), q_48 v_52 μ_51 → ∃ j_54 : Nat, j_54 < 10 ∧ x2_15 = nI j_54 ∧ (∀ μ_55 : gMem, μ_55 = gsI μ_51 711 r0 j_54 v_52 → (0 < d) ∧ ((0 < d) ∧ (∀ μ_62 : gMem, μ_62 = gsI μ_55 707 r0 10 ((μ_55.1 707 r0 10) + (1 : Int32)) → pt_X10_line_3 l D d q Γ r0 μ_62))))))))) ∧ (x1 = (1 : Int32) → (0 < d) ∧ (∀ x3_68 : Int32, x3_68 = (6 : Int32) + (μ_7.1 707 r0 11) → (0 < d) ∧ (∃ (d_73 : Nat) (q_74 : Int32 → gMem → Prop), d_73 < d ∧ Ctr l D d_73 yX10_fresh cX10_fresh 5 (some .int) [.ref (D.2.2 10 r0), .ref (D.2.2 712 r0), .int (6 : Int32), .int (μ_7.1 707 r0 11)] μ_7 (pI q_74) ∧ ∀ (v_78 : Int32) (μ_77 : gMem), q_74 v_78 μ_77 → ∃ j_80 : Nat, j_80 < 12 ∧ x3_68 = nI j_80 ∧ (∀ μ_81 : gMem, μ_81 = gsI μ_77 712 r0 j_80 v_78 → ∃ (d_82 : Nat) (q_83 : Int32 → gMem → Prop), d_82 < d ∧ Ctr l D d_82 yX10_numeral cX10_numeral 4 (some .int) [.ref (D.2.2 10 r0), .int (0 : Int32), .int (20 : Int32)] μ_81 (pI q_83) ∧ ∀ (v_87 : Int32) (μ_86 : gMem), q_83 v_87 μ_86 → ∃ j_89 : Nat, j_89 < 12 ∧ x3_68 = nI j_89 ∧ (∀ μ_90 : gMem, μ_90 = gsI μ_86 713 r0 j_89 v_87 → ∃ (d_91 : Nat) (q_92 : Int32 → gMem → Prop), d_91 < d ∧ Ctr l D d_91 yX10_numeral cX10_numeral 4 (some .int) [.ref (D.2.2 10 r0), .int (0 : Int32), .int (20 : Int32)] μ_90 (pI q_92) ∧ ∀ (v_96 : Int32) (μ_95 : gMem), q_92 v_96 μ_95 → ∃ j_98 : Nat, j_98 < 12 ∧ x3_68 = nI j_98 ∧ (∀ μ_99 : gMem, μ_99 = gsI μ_95 714 r0 j_98 v_96 → ∃ (d_100 : Nat) (q_101 : Int32 → gMem → Prop), d_100 < d ∧ Ctr l D d_100 yX10_numeral cX10_numeral 4 (some .int) [.ref (D.2.2 10 r0), .int (0 : Int32), .int (9 : Int32)] μ_99 (pI q_101) ∧ ∀ (v_105 : Int32) (μ_104 : gMem), q_101 v_105 μ_104 → ∃ j_107 : Nat, j_107 < 12 ∧ x3_68 = nI j_107 ∧ (∀ μ_108 : gMem, μ_108 = gsI μ_104 715 r0 j_107 v_105 → (0 < d) ∧ ((0 < d) ∧ (∀ μ_115 : gMem, μ_115 = gsI μ_108 707 r0 11 ((μ_108.1 707 r0 11) + (1 : Int32)) → pt_X10_line_3 l D d q Γ r0 μ_115))))))))) ∧ (x1 = (2 : Int32) → ∃ (d_117 : Nat) (q_118 : gMem → Prop), d_117 < d ∧ Ctr l D d_117 yX10_planLine cX10_planLine 5 none [.ref (D.2.2 10 r0)] μ_7 (pV q_118) ∧ ∀ (μ_121 : gMem), q_118 μ_121 → pt_X10_line_3 l D d q Γ r0 μ_121) ∧ (x1 = (3 : Int32) → ∃ (d_124 : Nat) (q_125 : Int32 → gMem → Prop), d_124 < d ∧ Ctr l D d_124 yX10_numeral cX10_numeral 4 (some .int) [.ref (D.2.2 10 r0), .int (0 : Int32), .int (999 : Int32)] μ_7 (pI q_125) ∧ ∀ (v_129 : Int32) (μ_128 : gMem), q_125 v_129 μ_128 → (0 < d) ∧ (∀ μ_133 : gMem, μ_133 = gsI μ_128 707 r0 13 v_129 → ∃ (d_135 : Nat) (q_136 : Int32 → gMem → Prop), d_135 < d ∧ Ctr l D d_135 yX10_numeral cX10_numeral 4 (some .int) [.ref (D.2.2 10 r0), .int (1 : Int32), .int (14 : Int32)] μ_133 (pI q_136) ∧ ∀ (v_140 : Int32) (μ_139 : gMem), q_136 v_140 μ_139 → (0 < d) ∧ (∀ μ_144 : gMem, μ_144 = gsI μ_139 707 r0 14 v_140 → pt_X10_line_3 l D d q Γ r0 μ_144))) ∧ (x1 = (4 : Int32) → ∃ (d_146 : Nat) (q_147 : Int32 → gMem → Prop), d_146 < d ∧ Ctr l D d_146 yX10_numeral cX10_numeral 4 (some .int) [.ref (D.2.2 10 r0), .int (0 : Int32), .int (99 : Int32)] μ_7 (pI q_147) ∧ ∀ (v_151 : Int32) (μ_150 : gMem), q_147 v_151 μ_150 → (0 < d) ∧ (∀ μ_155 : gMem, μ_155 = gsI μ_150 707 r0 15 v_151 → ∃ (d_157 : Nat) (q_158 : Int32 → gMem → Prop), d_157 < d ∧ Ctr l D d_157 yX10_numeral cX10_numeral 4 (some .int) [.ref (D.2.2 10 r0), .int (0 : Int32), .int (999 : Int32)] μ_155 (pI q_158) ∧ ∀ (v_162 : Int32) (μ_161 : gMem), q_158 v_162 μ_161 → (0 < d) ∧ (∀ μ_166 : gMem, μ_166 = gsI μ_161 707 r0 16 v_162 → pt_X10_line_3 l D d q Γ r0 μ_166))) ∧ (x1 = (5 : Int32) → ∃ (d_168 : Nat) (q_169 : Int32 → gMem → Prop), d_168 < d ∧ Ctr l D d_168 yX10_numeral cX10_numeral 4 (some .int) [.ref (D.2.2 10 r0), .int (0 : Int32), .int (100 : Int32)] μ_7 (pI q_169) ∧ ∀ (v_173 : Int32) (μ_172 : gMem), q_169 v_173 μ_172 → (0 < d) ∧ (∀ μ_177 : gMem, μ_177 = gsI μ_172 707 r0 17 v_173 → pt_X10_line_3 l D d q Γ r0 μ_177)) ∧ (x1 = (6 : Int32) → ∃ (d_179 : Nat) (q_180 : Int32 → gMem → Prop), d_179 < d ∧ Ctr l D d_179 yX10_numeral cX10_numeral 4 (some .int) [.ref (D.2.2 10 r0), .int (0 : Int32), .int (99999 : Int32)] μ_7 (pI q_180) ∧ ∀ (v_184 : Int32) (μ_183 : gMem), q_180 v_184 μ_183 → (0 < d) ∧ (∀ μ_188 : gMem, μ_188 = gsI μ_183 707 r0 18 v_184 → pt_X10_line_3 l D d q Γ r0 μ_188)) ∧ ((¬ x1 = (0 : Int32) ∧ ¬ x1 = (1 : Int32) ∧ ¬ x1 = (2 : Int32) ∧ ¬ x1 = (3 : Int32) ∧ ¬ x1 = (4 : Int32) ∧ ¬ x1 = (5 : Int32) ∧ ¬ x1 = (6 : Int32)) → ∃ (d_190 : Nat) (q_191 : gMem → Prop), d_190 < d ∧ Ctr l D d_190 yX10_lawLine cX10_lawLine 2 none [.ref (D.2.2 10 r0)] μ_7 (pV q_191) ∧ ∀ (μ_194 : gMem), q_191 μ_194 → pt_X10_line_3 l D d q Γ r0 μ_194)) ∧ ((¬ (μ.1 10 r0 24) = 0) → q μ)) : pt_X10_line_2 l D d q Γ r0 x1 μ := by
  unfold pt_X10_line_2
  refine g_aload_n dX10_line_71 rfl ?_
  refine g_gfI fi_10_199 hr0 dX10_line_72 ?_
  refine g_if_eq (tgt := 79) dX10_line_75 (by decide) (fun c_1 => ?_) (fun c_1 => ?_)
  · have h := h.1 c_1
    refine g_aload_n dX10_line_79 rfl ?_
    refine g_dup dX10_line_80 rfl ?_
    refine g_gfI fi_10_222 hr0 dX10_line_81 ?_
    refine g_iconst (1 : Int32) dX10_line_84 rfl ?_
    refine g_iload_n dX10_line_85 rfl ?_
    refine g_ishl dX10_line_86 ?_
    refine g_ior dX10_line_87 ?_
    refine g_pfI fi_10_222 hr0 rfl rfl dX10_line_88 ?_
    obtain ⟨μ_2, eμ_2⟩ : ∃ z : gMem, z = gsI μ 10 r0 17 ((μ.1 10 r0 17) ||| ((1 : Int32) <<< (x1 &&& 31))) := ⟨_, rfl⟩
    have h := h μ_2 eμ_2
    refine g_mem eμ_2.symm ?_
    refine g_aload_n dX10_line_91 rfl ?_
    obtain ⟨d_3, q_4, hd_5, hc_6, h⟩ := h
    refine g_cV ca_X10_205 ob_10 hc_6 hd_5 (by decide) hr0 rfl rfl (by first | exact Nat.le_of_ble_eq_true rfl | decide) dX10_line_92 (kV (fun μ_7 hq_9 => ?_))
    have h := h μ_7 hq_9
    refine g_iload_n dX10_line_95 rfl ?_
    by_cases c_10_0 : x1 = (0 : Int32)
    · refine g_tableIn (off := 44) (tgt := 140) dX10_line_96 (by rw [c_10_0]; decide) (by rw [c_10_0]; decide) (by rw [c_10_0]; rfl) (by decide) ?_
      have h := h.1 c_10_0
      refine g_iconst (5 : Int32) dX10_line_140 rfl ?_
      refine g_aload_n dX10_line_141 rfl ?_
      refine g_iconst (0 : Int32) dX10_line_142 rfl ?_
      obtain ⟨hd_11, h⟩ := h
      refine g_cV ca_X10_215 ob_10 (c_X10_fresher (d := 0) (Nat.le_refl _) hr0 (n := 0) (by decide) rfl) hd_11 (by decide) hr0 rfl rfl (by first | exact Nat.le_of_ble_eq_true rfl | decide) dX10_line_143 (kI (fun v_12 μ_13 hq_14 => ?_))
      obtain ⟨ev_12, eμ_13⟩ := hq_14
      subst ev_12
      refine g_mem eμ_13 ?_
      refine g_iadd dX10_line_146 ?_
      refine g_istore_n dX10_line_147 (by decide) (fun x2_15 ex2_15 => g_sub (lv' := [(0, .ref (D.2.2 10 r0)), (2, .int x2_15)]) [1, 0] rfl ?_)
      have h := h x2_15 ex2_15
      refine g_aload_n dX10_line_148 rfl ?_
      refine g_gfR fl_10_16 rfl hr0 dX10_line_149 ?_
      refine g_iload_n dX10_line_152 rfl ?_
      refine g_aload_n dX10_line_153 rfl ?_
      refine g_aload_n dX10_line_154 rfl ?_
      refine g_gfR fl_10_16 rfl hr0 dX10_line_155 ?_
      refine g_iconst (5 : Int32) dX10_line_158 rfl ?_
      refine g_aload_n dX10_line_159 rfl ?_
      refine g_iconst (0 : Int32) dX10_line_160 rfl ?_
      obtain ⟨hd_16, h⟩ := h
      refine g_cV ca_X10_215 ob_10 (c_X10_fresher (d := 0) (Nat.le_refl _) hr0 (n := 0) (by decide) rfl) hd_16 (by decide) hr0 rfl rfl (by first | exact Nat.le_of_ble_eq_true rfl | decide) dX10_line_161 (kI (fun v_17 μ_18 hq_19 => ?_))
      obtain ⟨ev_17, eμ_18⟩ := hq_19
      subst ev_17
      refine g_mem eμ_18 ?_
      obtain ⟨d_20, q_21, hd_22, hc_23, h⟩ := h
      refine g_cV ca_X10_225 ob_10 hc_23 hd_22 (by decide) hr0 rfl rfl (by first | exact Nat.le_of_ble_eq_true rfl | decide) dX10_line_164 (kI (fun v_25 μ_24 hq_26 => ?_))
      have h := h v_25 μ_24 hq_26
      obtain ⟨j_27, hj_27, ej_27, h⟩ := h
      refine g_iast j_27 hr0 rfl hj_27 (by decide) ej_27 dX10_line_167 ?_
      obtain ⟨μ_28, eμ_28⟩ : ∃ z : gMem, z = gsI μ_24 708 r0 j_27 v_25 := ⟨_, rfl⟩
      have h := h μ_28 eμ_28
      refine g_mem eμ_28.symm ?_
      refine g_aload_n dX10_line_168 rfl ?_
      refine g_gfR fl_10_19 rfl hr0 dX10_line_169 ?_
      refine g_iload_n dX10_line_172 rfl ?_
      refine g_aload_n dX10_line_173 rfl ?_
      refine g_iconst (0 : Int32) dX10_line_174 rfl ?_
      refine g_bipush (99 : Int32) dX10_line_175 rfl ?_
      obtain ⟨d_29, q_30, hd_31, hc_32, h⟩ := h
      refine g_cV ca_X10_229 ob_10 hc_32 hd_31 (by decide) hr0 rfl rfl (by first | exact Nat.le_of_ble_eq_true rfl | decide) dX10_line_177 (kI (fun v_34 μ_33 hq_35 => ?_))
      have h := h v_34 μ_33 hq_35
      obtain ⟨j_36, hj_36, ej_36, h⟩ := h
      refine g_iast j_36 hr0 rfl hj_36 (by decide) ej_36 dX10_line_180 ?_
      obtain ⟨μ_37, eμ_37⟩ : ∃ z : gMem, z = gsI μ_33 709 r0 j_36 v_34 := ⟨_, rfl⟩
      have h := h μ_37 eμ_37
      refine g_mem eμ_37.symm ?_
      refine g_aload_n dX10_line_181 rfl ?_
      refine g_gfR fl_10_22 rfl hr0 dX10_line_182 ?_
      refine g_iload_n dX10_line_185 rfl ?_
      refine g_aload_n dX10_line_186 rfl ?_
      refine g_iconst (0 : Int32) dX10_line_187 rfl ?_
      refine g_bipush (99 : Int32) dX10_line_188 rfl ?_
      obtain ⟨d_38, q_39, hd_40, hc_41, h⟩ := h
      refine g_cV ca_X10_229 ob_10 hc_41 hd_40 (by decide) hr0 rfl rfl (by first | exact Nat.le_of_ble_eq_true rfl | decide) dX10_line_190 (kI (fun v_43 μ_42 hq_44 => ?_))
      have h := h v_43 μ_42 hq_44
      obtain ⟨j_45, hj_45, ej_45, h⟩ := h
      refine g_iast j_45 hr0 rfl hj_45 (by decide) ej_45 dX10_line_193 ?_
      obtain ⟨μ_46, eμ_46⟩ : ∃ z : gMem, z = gsI μ_42 710 r0 j_45 v_43 := ⟨_, rfl⟩
      have h := h μ_46 eμ_46
      refine g_mem eμ_46.symm ?_
      refine g_aload_n dX10_line_194 rfl ?_
      refine g_gfR fl_10_25 rfl hr0 dX10_line_195 ?_
      refine g_iload_n dX10_line_198 rfl ?_
      refine g_aload_n dX10_line_199 rfl ?_
      refine g_iconst (0 : Int32) dX10_line_200 rfl ?_
      refine g_bipush (99 : Int32) dX10_line_201 rfl ?_
      obtain ⟨d_47, q_48, hd_49, hc_50, h⟩ := h
      refine g_cV ca_X10_229 ob_10 hc_50 hd_49 (by decide) hr0 rfl rfl (by first | exact Nat.le_of_ble_eq_true rfl | decide) dX10_line_203 (kI (fun v_52 μ_51 hq_53 => ?_))
      have h := h v_52 μ_51 hq_53
      obtain ⟨j_54, hj_54, ej_54, h⟩ := h
      refine g_iast j_54 hr0 rfl hj_54 (by decide) ej_54 dX10_line_206 ?_
      obtain ⟨μ_55, eμ_55⟩ : ∃ z : gMem, z = gsI μ_51 711 r0 j_54 v_52 := ⟨_, rfl⟩
      have h := h μ_55 eμ_55
      refine g_mem eμ_55.symm ?_
      refine g_aload_n dX10_line_207 rfl ?_
      refine g_iconst (0 : Int32) dX10_line_208 rfl ?_
      refine g_aload_n dX10_line_209 rfl ?_
      refine g_iconst (0 : Int32) dX10_line_210 rfl ?_
      obtain ⟨hd_56, h⟩ := h
      refine g_cV ca_X10_215 ob_10 (c_X10_fresher (d := 0) (Nat.le_refl _) hr0 (n := 0) (by decide) rfl) hd_56 (by decide) hr0 rfl rfl (by first | exact Nat.le_of_ble_eq_true rfl | decide) dX10_line_211 (kI (fun v_57 μ_58 hq_59 => ?_))
      obtain ⟨ev_57, eμ_58⟩ := hq_59
      subst ev_57
      refine g_mem eμ_58 ?_
      refine g_iconst (1 : Int32) dX10_line_214 rfl ?_
      refine g_iadd dX10_line_215 ?_
      obtain ⟨hd_60, h⟩ := h
      refine g_cV ca_X10_233 ob_10 (c_X10_reads (d := 0) (Nat.le_refl _) hr0 (n := 0) (by decide) rfl) hd_60 (by decide) hr0 rfl rfl (by first | exact Nat.le_of_ble_eq_true rfl | decide) dX10_line_216 (kV (fun μ_62 hq_63 => ?_))
      have h := h μ_62 hq_63
      refine g_goto (tgt := 406) dX10_line_219 (by decide) ?_
      exact g_sub [0] rfl h
    by_cases c_10_1 : x1 = (1 : Int32)
    · refine g_tableIn (off := 126) (tgt := 222) dX10_line_96 (by rw [c_10_1]; decide) (by rw [c_10_1]; decide) (by rw [c_10_1]; rfl) (by decide) ?_
      have h := h.2.1 c_10_1
      refine g_bipush (6 : Int32) dX10_line_222 rfl ?_
      refine g_aload_n dX10_line_224 rfl ?_
      refine g_iconst (1 : Int32) dX10_line_225 rfl ?_
      obtain ⟨hd_64, h⟩ := h
      refine g_cV ca_X10_215 ob_10 (c_X10_fresher (d := 0) (Nat.le_refl _) hr0 (n := 1) (by decide) rfl) hd_64 (by decide) hr0 rfl rfl (by first | exact Nat.le_of_ble_eq_true rfl | decide) dX10_line_226 (kI (fun v_65 μ_66 hq_67 => ?_))
      obtain ⟨ev_65, eμ_66⟩ := hq_67
      subst ev_65
      refine g_mem eμ_66 ?_
      refine g_iadd dX10_line_229 ?_
      refine g_istore_n dX10_line_230 (by decide) (fun x3_68 ex3_68 => g_sub (lv' := [(0, .ref (D.2.2 10 r0)), (3, .int x3_68)]) [1, 0] rfl ?_)
      have h := h x3_68 ex3_68
      refine g_aload_n dX10_line_231 rfl ?_
      refine g_gfR fl_10_28 rfl hr0 dX10_line_232 ?_
      refine g_iload_n dX10_line_235 rfl ?_
      refine g_aload_n dX10_line_236 rfl ?_
      refine g_aload_n dX10_line_237 rfl ?_
      refine g_gfR fl_10_28 rfl hr0 dX10_line_238 ?_
      refine g_bipush (6 : Int32) dX10_line_241 rfl ?_
      refine g_aload_n dX10_line_243 rfl ?_
      refine g_iconst (1 : Int32) dX10_line_244 rfl ?_
      obtain ⟨hd_69, h⟩ := h
      refine g_cV ca_X10_215 ob_10 (c_X10_fresher (d := 0) (Nat.le_refl _) hr0 (n := 1) (by decide) rfl) hd_69 (by decide) hr0 rfl rfl (by first | exact Nat.le_of_ble_eq_true rfl | decide) dX10_line_245 (kI (fun v_70 μ_71 hq_72 => ?_))
      obtain ⟨ev_70, eμ_71⟩ := hq_72
      subst ev_70
      refine g_mem eμ_71 ?_
      obtain ⟨d_73, q_74, hd_75, hc_76, h⟩ := h
      refine g_cV ca_X10_225 ob_10 hc_76 hd_75 (by decide) hr0 rfl rfl (by first | exact Nat.le_of_ble_eq_true rfl | decide) dX10_line_248 (kI (fun v_78 μ_77 hq_79 => ?_))
      have h := h v_78 μ_77 hq_79
      obtain ⟨j_80, hj_80, ej_80, h⟩ := h
      refine g_iast j_80 hr0 rfl hj_80 (by decide) ej_80 dX10_line_251 ?_
      obtain ⟨μ_81, eμ_81⟩ : ∃ z : gMem, z = gsI μ_77 712 r0 j_80 v_78 := ⟨_, rfl⟩
      have h := h μ_81 eμ_81
      refine g_mem eμ_81.symm ?_
      refine g_aload_n dX10_line_252 rfl ?_
      refine g_gfR fl_10_31 rfl hr0 dX10_line_253 ?_
      refine g_iload_n dX10_line_256 rfl ?_
      refine g_aload_n dX10_line_257 rfl ?_
      refine g_iconst (0 : Int32) dX10_line_258 rfl ?_
      refine g_bipush (20 : Int32) dX10_line_259 rfl ?_
      obtain ⟨d_82, q_83, hd_84, hc_85, h⟩ := h
      refine g_cV ca_X10_229 ob_10 hc_85 hd_84 (by decide) hr0 rfl rfl (by first | exact Nat.le_of_ble_eq_true rfl | decide) dX10_line_261 (kI (fun v_87 μ_86 hq_88 => ?_))
      have h := h v_87 μ_86 hq_88
      obtain ⟨j_89, hj_89, ej_89, h⟩ := h
      refine g_iast j_89 hr0 rfl hj_89 (by decide) ej_89 dX10_line_264 ?_
      obtain ⟨μ_90, eμ_90⟩ : ∃ z : gMem, z = gsI μ_86 713 r0 j_89 v_87 := ⟨_, rfl⟩
      have h := h μ_90 eμ_90
      refine g_mem eμ_90.symm ?_
      refine g_aload_n dX10_line_265 rfl ?_
      refine g_gfR fl_10_34 rfl hr0 dX10_line_266 ?_
      refine g_iload_n dX10_line_269 rfl ?_
      refine g_aload_n dX10_line_270 rfl ?_
      refine g_iconst (0 : Int32) dX10_line_271 rfl ?_
      refine g_bipush (20 : Int32) dX10_line_272 rfl ?_
      obtain ⟨d_91, q_92, hd_93, hc_94, h⟩ := h
      refine g_cV ca_X10_229 ob_10 hc_94 hd_93 (by decide) hr0 rfl rfl (by first | exact Nat.le_of_ble_eq_true rfl | decide) dX10_line_274 (kI (fun v_96 μ_95 hq_97 => ?_))
      have h := h v_96 μ_95 hq_97
      obtain ⟨j_98, hj_98, ej_98, h⟩ := h
      refine g_iast j_98 hr0 rfl hj_98 (by decide) ej_98 dX10_line_277 ?_
      obtain ⟨μ_99, eμ_99⟩ : ∃ z : gMem, z = gsI μ_95 714 r0 j_98 v_96 := ⟨_, rfl⟩
      have h := h μ_99 eμ_99
      refine g_mem eμ_99.symm ?_
      refine g_aload_n dX10_line_278 rfl ?_
      refine g_gfR fl_10_37 rfl hr0 dX10_line_279 ?_
      refine g_iload_n dX10_line_282 rfl ?_
      refine g_aload_n dX10_line_283 rfl ?_
      refine g_iconst (0 : Int32) dX10_line_284 rfl ?_
      refine g_bipush (9 : Int32) dX10_line_285 rfl ?_
      obtain ⟨d_100, q_101, hd_102, hc_103, h⟩ := h
      refine g_cV ca_X10_229 ob_10 hc_103 hd_102 (by decide) hr0 rfl rfl (by first | exact Nat.le_of_ble_eq_true rfl | decide) dX10_line_287 (kI (fun v_105 μ_104 hq_106 => ?_))
      have h := h v_105 μ_104 hq_106
      obtain ⟨j_107, hj_107, ej_107, h⟩ := h
      refine g_iast j_107 hr0 rfl hj_107 (by decide) ej_107 dX10_line_290 ?_
      obtain ⟨μ_108, eμ_108⟩ : ∃ z : gMem, z = gsI μ_104 715 r0 j_107 v_105 := ⟨_, rfl⟩
      have h := h μ_108 eμ_108
      refine g_mem eμ_108.symm ?_
      refine g_aload_n dX10_line_291 rfl ?_
      refine g_iconst (1 : Int32) dX10_line_292 rfl ?_
      refine g_aload_n dX10_line_293 rfl ?_
      refine g_iconst (1 : Int32) dX10_line_294 rfl ?_
      obtain ⟨hd_109, h⟩ := h
      refine g_cV ca_X10_215 ob_10 (c_X10_fresher (d := 0) (Nat.le_refl _) hr0 (n := 1) (by decide) rfl) hd_109 (by decide) hr0 rfl rfl (by first | exact Nat.le_of_ble_eq_true rfl | decide) dX10_line_295 (kI (fun v_110 μ_111 hq_112 => ?_))
      obtain ⟨ev_110, eμ_111⟩ := hq_112
      subst ev_110
      refine g_mem eμ_111 ?_
      refine g_iconst (1 : Int32) dX10_line_298 rfl ?_
      refine g_iadd dX10_line_299 ?_
      obtain ⟨hd_113, h⟩ := h
      refine g_cV ca_X10_233 ob_10 (c_X10_reads (d := 0) (Nat.le_refl _) hr0 (n := 1) (by decide) rfl) hd_113 (by decide) hr0 rfl rfl (by first | exact Nat.le_of_ble_eq_true rfl | decide) dX10_line_300 (kV (fun μ_115 hq_116 => ?_))
      have h := h μ_115 hq_116
      refine g_goto (tgt := 406) dX10_line_303 (by decide) ?_
      exact g_sub [0] rfl h
    by_cases c_10_2 : x1 = (2 : Int32)
    · refine g_tableIn (off := 210) (tgt := 306) dX10_line_96 (by rw [c_10_2]; decide) (by rw [c_10_2]; decide) (by rw [c_10_2]; rfl) (by decide) ?_
      have h := h.2.2.1 c_10_2
      refine g_aload_n dX10_line_306 rfl ?_
      obtain ⟨d_117, q_118, hd_119, hc_120, h⟩ := h
      refine g_cV ca_X10_237 ob_10 hc_120 hd_119 (by decide) hr0 rfl rfl (by first | exact Nat.le_of_ble_eq_true rfl | decide) dX10_line_307 (kV (fun μ_121 hq_123 => ?_))
      have h := h μ_121 hq_123
      refine g_goto (tgt := 406) dX10_line_310 (by decide) ?_
      exact g_sub [0] rfl h
    by_cases c_10_3 : x1 = (3 : Int32)
    · refine g_tableIn (off := 217) (tgt := 313) dX10_line_96 (by rw [c_10_3]; decide) (by rw [c_10_3]; decide) (by rw [c_10_3]; rfl) (by decide) ?_
      have h := h.2.2.2.1 c_10_3
      refine g_aload_n dX10_line_313 rfl ?_
      refine g_iconst (3 : Int32) dX10_line_314 rfl ?_
      refine g_aload_n dX10_line_315 rfl ?_
      refine g_iconst (0 : Int32) dX10_line_316 rfl ?_
      refine g_sipush (999 : Int32) dX10_line_317 rfl ?_
      obtain ⟨d_124, q_125, hd_126, hc_127, h⟩ := h
      refine g_cV ca_X10_229 ob_10 hc_127 hd_126 (by decide) hr0 rfl rfl (by first | exact Nat.le_of_ble_eq_true rfl | decide) dX10_line_320 (kI (fun v_129 μ_128 hq_130 => ?_))
      have h := h v_129 μ_128 hq_130
      obtain ⟨hd_131, h⟩ := h
      refine g_cV ca_X10_233 ob_10 (c_X10_reads (d := 0) (Nat.le_refl _) hr0 (n := 3) (by decide) rfl) hd_131 (by decide) hr0 rfl rfl (by first | exact Nat.le_of_ble_eq_true rfl | decide) dX10_line_323 (kV (fun μ_133 hq_134 => ?_))
      have h := h μ_133 hq_134
      refine g_aload_n dX10_line_326 rfl ?_
      refine g_iconst (4 : Int32) dX10_line_327 rfl ?_
      refine g_aload_n dX10_line_328 rfl ?_
      refine g_iconst (1 : Int32) dX10_line_329 rfl ?_
      refine g_bipush (14 : Int32) dX10_line_330 rfl ?_
      obtain ⟨d_135, q_136, hd_137, hc_138, h⟩ := h
      refine g_cV ca_X10_229 ob_10 hc_138 hd_137 (by decide) hr0 rfl rfl (by first | exact Nat.le_of_ble_eq_true rfl | decide) dX10_line_332 (kI (fun v_140 μ_139 hq_141 => ?_))
      have h := h v_140 μ_139 hq_141
      obtain ⟨hd_142, h⟩ := h
      refine g_cV ca_X10_233 ob_10 (c_X10_reads (d := 0) (Nat.le_refl _) hr0 (n := 4) (by decide) rfl) hd_142 (by decide) hr0 rfl rfl (by first | exact Nat.le_of_ble_eq_true rfl | decide) dX10_line_335 (kV (fun μ_144 hq_145 => ?_))
      have h := h μ_144 hq_145
      refine g_goto (tgt := 406) dX10_line_338 (by decide) ?_
      exact g_sub [0] rfl h
    by_cases c_10_4 : x1 = (4 : Int32)
    · refine g_tableIn (off := 245) (tgt := 341) dX10_line_96 (by rw [c_10_4]; decide) (by rw [c_10_4]; decide) (by rw [c_10_4]; rfl) (by decide) ?_
      have h := h.2.2.2.2.1 c_10_4
      refine g_aload_n dX10_line_341 rfl ?_
      refine g_iconst (5 : Int32) dX10_line_342 rfl ?_
      refine g_aload_n dX10_line_343 rfl ?_
      refine g_iconst (0 : Int32) dX10_line_344 rfl ?_
      refine g_bipush (99 : Int32) dX10_line_345 rfl ?_
      obtain ⟨d_146, q_147, hd_148, hc_149, h⟩ := h
      refine g_cV ca_X10_229 ob_10 hc_149 hd_148 (by decide) hr0 rfl rfl (by first | exact Nat.le_of_ble_eq_true rfl | decide) dX10_line_347 (kI (fun v_151 μ_150 hq_152 => ?_))
      have h := h v_151 μ_150 hq_152
      obtain ⟨hd_153, h⟩ := h
      refine g_cV ca_X10_233 ob_10 (c_X10_reads (d := 0) (Nat.le_refl _) hr0 (n := 5) (by decide) rfl) hd_153 (by decide) hr0 rfl rfl (by first | exact Nat.le_of_ble_eq_true rfl | decide) dX10_line_350 (kV (fun μ_155 hq_156 => ?_))
      have h := h μ_155 hq_156
      refine g_aload_n dX10_line_353 rfl ?_
      refine g_bipush (6 : Int32) dX10_line_354 rfl ?_
      refine g_aload_n dX10_line_356 rfl ?_
      refine g_iconst (0 : Int32) dX10_line_357 rfl ?_
      refine g_sipush (999 : Int32) dX10_line_358 rfl ?_
      obtain ⟨d_157, q_158, hd_159, hc_160, h⟩ := h
      refine g_cV ca_X10_229 ob_10 hc_160 hd_159 (by decide) hr0 rfl rfl (by first | exact Nat.le_of_ble_eq_true rfl | decide) dX10_line_361 (kI (fun v_162 μ_161 hq_163 => ?_))
      have h := h v_162 μ_161 hq_163
      obtain ⟨hd_164, h⟩ := h
      refine g_cV ca_X10_233 ob_10 (c_X10_reads (d := 0) (Nat.le_refl _) hr0 (n := 6) (by decide) rfl) hd_164 (by decide) hr0 rfl rfl (by first | exact Nat.le_of_ble_eq_true rfl | decide) dX10_line_364 (kV (fun μ_166 hq_167 => ?_))
      have h := h μ_166 hq_167
      refine g_goto (tgt := 406) dX10_line_367 (by decide) ?_
      exact g_sub [0] rfl h
    by_cases c_10_5 : x1 = (5 : Int32)
    · refine g_tableIn (off := 274) (tgt := 370) dX10_line_96 (by rw [c_10_5]; decide) (by rw [c_10_5]; decide) (by rw [c_10_5]; rfl) (by decide) ?_
      have h := h.2.2.2.2.2.1 c_10_5
      refine g_aload_n dX10_line_370 rfl ?_
      refine g_bipush (7 : Int32) dX10_line_371 rfl ?_
      refine g_aload_n dX10_line_373 rfl ?_
      refine g_iconst (0 : Int32) dX10_line_374 rfl ?_
      refine g_bipush (100 : Int32) dX10_line_375 rfl ?_
      obtain ⟨d_168, q_169, hd_170, hc_171, h⟩ := h
      refine g_cV ca_X10_229 ob_10 hc_171 hd_170 (by decide) hr0 rfl rfl (by first | exact Nat.le_of_ble_eq_true rfl | decide) dX10_line_377 (kI (fun v_173 μ_172 hq_174 => ?_))
      have h := h v_173 μ_172 hq_174
      obtain ⟨hd_175, h⟩ := h
      refine g_cV ca_X10_233 ob_10 (c_X10_reads (d := 0) (Nat.le_refl _) hr0 (n := 7) (by decide) rfl) hd_175 (by decide) hr0 rfl rfl (by first | exact Nat.le_of_ble_eq_true rfl | decide) dX10_line_380 (kV (fun μ_177 hq_178 => ?_))
      have h := h μ_177 hq_178
      refine g_goto (tgt := 406) dX10_line_383 (by decide) ?_
      exact g_sub [0] rfl h
    by_cases c_10_6 : x1 = (6 : Int32)
    · refine g_tableIn (off := 290) (tgt := 386) dX10_line_96 (by rw [c_10_6]; decide) (by rw [c_10_6]; decide) (by rw [c_10_6]; rfl) (by decide) ?_
      have h := h.2.2.2.2.2.2.1 c_10_6
      refine g_aload_n dX10_line_386 rfl ?_
      refine g_bipush (8 : Int32) dX10_line_387 rfl ?_
      refine g_aload_n dX10_line_389 rfl ?_
      refine g_iconst (0 : Int32) dX10_line_390 rfl ?_
      refine g_ldc kc_X10_183 dX10_line_391 ?_
      obtain ⟨d_179, q_180, hd_181, hc_182, h⟩ := h
      refine g_cV ca_X10_229 ob_10 hc_182 hd_181 (by decide) hr0 rfl rfl (by first | exact Nat.le_of_ble_eq_true rfl | decide) dX10_line_393 (kI (fun v_184 μ_183 hq_185 => ?_))
      have h := h v_184 μ_183 hq_185
      obtain ⟨hd_186, h⟩ := h
      refine g_cV ca_X10_233 ob_10 (c_X10_reads (d := 0) (Nat.le_refl _) hr0 (n := 8) (by decide) rfl) hd_186 (by decide) hr0 rfl rfl (by first | exact Nat.le_of_ble_eq_true rfl | decide) dX10_line_396 (kV (fun μ_188 hq_189 => ?_))
      have h := h μ_188 hq_189
      refine g_goto (tgt := 406) dX10_line_399 (by decide) ?_
      exact g_sub [0] rfl h
    have c_10_o : (x1).toInt < 0 ∨ 6 < (x1).toInt := by
      have := lv_neT c_10_0 (a := 0) rfl
      have := lv_neT c_10_1 (a := 1) rfl
      have := lv_neT c_10_2 (a := 2) rfl
      have := lv_neT c_10_3 (a := 3) rfl
      have := lv_neT c_10_4 (a := 4) rfl
      have := lv_neT c_10_5 (a := 5) rfl
      have := lv_neT c_10_6 (a := 6) rfl
      omega
    refine g_tableOut (tgt := 402) dX10_line_96 c_10_o (by decide) ?_
    have h := h.2.2.2.2.2.2.2 ⟨c_10_0, c_10_1, c_10_2, c_10_3, c_10_4, c_10_5, c_10_6⟩
    refine g_aload_n dX10_line_402 rfl ?_
    obtain ⟨d_190, q_191, hd_192, hc_193, h⟩ := h
    refine g_cV ca_X10_240 ob_10 hc_193 hd_192 (by decide) hr0 rfl rfl (by first | exact Nat.le_of_ble_eq_true rfl | decide) dX10_line_403 (kV (fun μ_194 hq_196 => ?_))
    have h := h μ_194 hq_196
    exact g_sub [0] rfl h
  · have h := h.2 c_1
    exact g_vret dX10_line_78 rfl ⟨rfl, h⟩
set_option maxRecDepth 20000 in
set_option maxHeartbeats 4000000 in
theorem bl_X10_line_3 {l : Launch} {D : gD} {d : Nat} {q : gMem → Prop} {Γ : gC} {r0 : Nat} {μ : gMem} (hr0 : r0 < 1) (h : (((μ.1 10 r0 24) = 0) → (0 < d) ∧ (((¬ (bI (μ.1 10 r0 24 = 0 ∧ μ.1 10 r0 22 = (3 : Int32) ∧ μ.1 10 r0 23 = (59 : Int32))) = 0) → ∃ (d_7 : Nat) (q_8 : gMem → Prop), d_7 < d ∧ Ctr l D d_7 yX10_token cX10_token 2 none [.ref (D.2.2 10 r0)] μ (pV q_8) ∧ ∀ (μ_11 : gMem), q_8 μ_11 → pt_X10_line_4 l D d q Γ r0 μ_11) ∧ (((bI (μ.1 10 r0 24 = 0 ∧ μ.1 10 r0 22 = (3 : Int32) ∧ μ.1 10 r0 23 = (59 : Int32))) = 0) → ∃ (d_14 : Nat) (q_15 : gMem → Prop), d_14 < d ∧ Ctr l D d_14 yX10_wrong cX10_wrong 2 none [.ref (D.2.2 10 r0), .int (1 : Int32)] μ (pV q_15) ∧ ∀ (μ_18 : gMem), q_15 μ_18 → pt_X10_line_4 l D d q Γ r0 μ_18))) ∧ ((¬ (μ.1 10 r0 24) = 0) → q μ)) : pt_X10_line_3 l D d q Γ r0 μ := by
  unfold pt_X10_line_3
  refine g_aload_n dX10_line_406 rfl ?_
  refine g_gfI fi_10_199 hr0 dX10_line_407 ?_
  refine g_if_eq (tgt := 414) dX10_line_410 (by decide) (fun c_1 => ?_) (fun c_1 => ?_)
  · have h := h.1 c_1
    refine g_aload_n dX10_line_414 rfl ?_
    refine g_bipush (59 : Int32) dX10_line_415 rfl ?_
    obtain ⟨hd_2, h⟩ := h
    refine g_cV ca_X10_243 ob_10 (c_X10_isSign (d := 0) (Nat.le_refl _) hr0 ) hd_2 (by decide) hr0 rfl rfl (by first | exact Nat.le_of_ble_eq_true rfl | decide) dX10_line_417 (kI (fun v_3 μ_4 hq_5 => ?_))
    obtain ⟨ev_3, eμ_4⟩ := hq_5
    subst ev_3
    refine g_mem eμ_4 ?_
    refine g_if_ne (tgt := 431) dX10_line_420 (by decide) (fun c_6 => ?_) (fun c_6 => ?_)
    · have h := h.1 c_6
      refine g_aload_n dX10_line_431 rfl ?_
      obtain ⟨d_7, q_8, hd_9, hc_10, h⟩ := h
      refine g_cV ca_X10_205 ob_10 hc_10 hd_9 (by decide) hr0 rfl rfl (by first | exact Nat.le_of_ble_eq_true rfl | decide) dX10_line_432 (kV (fun μ_11 hq_13 => ?_))
      have h := h μ_11 hq_13
      exact g_sub [0] rfl h
    · have h := h.2 c_6
      refine g_aload_n dX10_line_423 rfl ?_
      refine g_iconst (1 : Int32) dX10_line_424 rfl ?_
      obtain ⟨d_14, q_15, hd_16, hc_17, h⟩ := h
      refine g_cV ca_X10_208 ob_10 hc_17 hd_16 (by decide) hr0 rfl rfl (by first | exact Nat.le_of_ble_eq_true rfl | decide) dX10_line_425 (kV (fun μ_18 hq_20 => ?_))
      have h := h μ_18 hq_20
      refine g_goto (tgt := 435) dX10_line_428 (by decide) ?_
      exact g_sub [0] rfl h
  · have h := h.2 c_1
    exact g_vret dX10_line_413 rfl ⟨rfl, h⟩
set_option maxRecDepth 20000 in
set_option maxHeartbeats 4000000 in
theorem bl_X10_line_4 {l : Launch} {D : gD} {d : Nat} {q : gMem → Prop} {Γ : gC} {r0 : Nat} {μ : gMem} (hr0 : r0 < 1) (h : ∀ μ_1 : gMem, μ_1 = gsI μ 10 r0 18 ((μ.1 10 r0 18) + (1 : Int32)) → q μ_1) : pt_X10_line_4 l D d q Γ r0 μ := by
  unfold pt_X10_line_4
  refine g_aload_n dX10_line_435 rfl ?_
  refine g_dup dX10_line_436 rfl ?_
  refine g_gfI fi_10_246 hr0 dX10_line_437 ?_
  refine g_iconst (1 : Int32) dX10_line_440 rfl ?_
  refine g_iadd dX10_line_441 ?_
  refine g_pfI fi_10_246 hr0 rfl rfl dX10_line_442 ?_
  obtain ⟨μ_1, eμ_1⟩ : ∃ z : gMem, z = gsI μ 10 r0 18 ((μ.1 10 r0 18) + (1 : Int32)) := ⟨_, rfl⟩
  have h := h μ_1 eμ_1
  refine g_mem eμ_1.symm ?_
  exact g_vret dX10_line_445 rfl ⟨rfl, h⟩
theorem en_X10_line {l : Launch} {D : gD} {d : Nat} {q : gMem → Prop} {r0 : Nat} {μ : gMem} (h : ∀ Γ : gC, pt_X10_line_0 l D d q Γ r0 μ) : Ctr l D d yX10_line cX10_line 4 none [.ref (D.2.2 10 r0)] μ (pV q) :=
  Ctr_of rfl (by decide) (Nat.le_of_ble_eq_true rfl) (fun Γ => g_sub [0] rfl (h Γ))
def pt_X10_planLine_0 (l : Launch) (D : gD) (d : Nat) (q : gMem → Prop) (Γ : gC) (r0 : Nat) (μ : gMem) : Prop := G l D RX10 cX10_planLine 5 none d (pV q) Γ 0 [(0, .ref (D.2.2 10 r0))] [] μ
def pt_X10_planLine_1 (l : Launch) (D : gD) (d : Nat) (q : gMem → Prop) (Γ : gC) (r0 : Nat) (x3 : Int32) (μ : gMem) : Prop := G l D RX10 cX10_planLine 5 none d (pV q) Γ 66 [(0, .ref (D.2.2 10 r0)), (3, .int x3)] [] μ
set_option maxRecDepth 20000 in
set_option maxHeartbeats 4000000 in
theorem bl_X10_planLine_0 {l : Launch} {D : gD} {d : Nat} {q : gMem → Prop} {Γ : gC} {r0 : Nat} {μ : gMem} (hr0 : r0 < 1) (h : (0 < d) ∧ (∃ (d_5 : Nat) (q_6 : Int32 → gMem → Prop), d_5 < d ∧ Ctr l D d_5 yX10_toldAhead cX10_toldAhead 4 (some .int) [.ref (D.2.2 10 r0), .ref (D.2.2 708 r0), .int (5 : Int32), .int (μ.1 707 r0 10)] μ (pI q_6) ∧ ∀ (v_10 : Int32) (μ_9 : gMem), q_6 v_10 μ_9 → ∀ x1_12 : Int32, x1_12 = v_10 → ∃ (d_13 : Nat) (q_14 : gMem → Prop), d_13 < d ∧ Ctr l D d_13 yX10_goOn cX10_goOn 1 none [.ref (D.2.2 10 r0)] μ_9 (pV q_14) ∧ ∀ (μ_17 : gMem), q_14 μ_17 → (0 < d) ∧ (∃ (d_24 : Nat) (q_25 : Int32 → gMem → Prop), d_24 < d ∧ Ctr l D d_24 yX10_toldAhead cX10_toldAhead 4 (some .int) [.ref (D.2.2 10 r0), .ref (D.2.2 712 r0), .int (6 : Int32), .int (μ_17.1 707 r0 11)] μ_17 (pI q_25) ∧ ∀ (v_29 : Int32) (μ_28 : gMem), q_25 v_29 μ_28 → ∀ x2_31 : Int32, x2_31 = v_29 → ∀ x3_32 : Int32, x3_32 = ((30 : Int32) + ((6 : Int32) * x1_12)) + x2_31 → ((¬ (μ_28.1 10 r0 24) = 0) → pt_X10_planLine_1 l D d q Γ r0 x3_32 μ_28) ∧ (((μ_28.1 10 r0 24) = 0) → ∃ j_34 : Nat, j_34 < 60 ∧ x3_32 = nI j_34 ∧ ((((μ_28.1 716 r0 j_34) ≤ 0) → pt_X10_planLine_1 l D d q Γ r0 x3_32 μ_28) ∧ ((¬ (μ_28.1 716 r0 j_34) ≤ 0) → ∃ (d_36 : Nat) (q_37 : gMem → Prop), d_36 < d ∧ Ctr l D d_36 yX10_wrong cX10_wrong 2 none [.ref (D.2.2 10 r0), .int (3 : Int32)] μ_28 (pV q_37) ∧ ∀ (μ_40 : gMem), q_37 μ_40 → pt_X10_planLine_1 l D d q Γ r0 x3_32 μ_40)))))) : pt_X10_planLine_0 l D d q Γ r0 μ := by
  unfold pt_X10_planLine_0
  refine g_aload_n dX10_planLine_0 rfl ?_
  refine g_aload_n dX10_planLine_1 rfl ?_
  refine g_gfR fl_10_16 rfl hr0 dX10_planLine_2 ?_
  refine g_iconst (5 : Int32) dX10_planLine_5 rfl ?_
  refine g_aload_n dX10_planLine_6 rfl ?_
  refine g_iconst (0 : Int32) dX10_planLine_7 rfl ?_
  obtain ⟨hd_1, h⟩ := h
  refine g_cV ca_X10_215 ob_10 (c_X10_fresher (d := 0) (Nat.le_refl _) hr0 (n := 0) (by decide) rfl) hd_1 (by decide) hr0 rfl rfl (by first | exact Nat.le_of_ble_eq_true rfl | decide) dX10_planLine_8 (kI (fun v_2 μ_3 hq_4 => ?_))
  obtain ⟨ev_2, eμ_3⟩ := hq_4
  subst ev_2
  refine g_mem eμ_3 ?_
  obtain ⟨d_5, q_6, hd_7, hc_8, h⟩ := h
  refine g_cV ca_X10_249 ob_10 hc_8 hd_7 (by decide) hr0 rfl rfl (by first | exact Nat.le_of_ble_eq_true rfl | decide) dX10_planLine_11 (kI (fun v_10 μ_9 hq_11 => ?_))
  have h := h v_10 μ_9 hq_11
  refine g_istore_n dX10_planLine_14 (by decide) (fun x1_12 ex1_12 => g_sub (lv' := [(0, .ref (D.2.2 10 r0)), (1, .int x1_12)]) [1, 0] rfl ?_)
  have h := h x1_12 ex1_12
  refine g_aload_n dX10_planLine_15 rfl ?_
  obtain ⟨d_13, q_14, hd_15, hc_16, h⟩ := h
  refine g_cV ca_X10_252 ob_10 hc_16 hd_15 (by decide) hr0 rfl rfl (by first | exact Nat.le_of_ble_eq_true rfl | decide) dX10_planLine_16 (kV (fun μ_17 hq_19 => ?_))
  have h := h μ_17 hq_19
  refine g_aload_n dX10_planLine_19 rfl ?_
  refine g_aload_n dX10_planLine_20 rfl ?_
  refine g_gfR fl_10_28 rfl hr0 dX10_planLine_21 ?_
  refine g_bipush (6 : Int32) dX10_planLine_24 rfl ?_
  refine g_aload_n dX10_planLine_26 rfl ?_
  refine g_iconst (1 : Int32) dX10_planLine_27 rfl ?_
  obtain ⟨hd_20, h⟩ := h
  refine g_cV ca_X10_215 ob_10 (c_X10_fresher (d := 0) (Nat.le_refl _) hr0 (n := 1) (by decide) rfl) hd_20 (by decide) hr0 rfl rfl (by first | exact Nat.le_of_ble_eq_true rfl | decide) dX10_planLine_28 (kI (fun v_21 μ_22 hq_23 => ?_))
  obtain ⟨ev_21, eμ_22⟩ := hq_23
  subst ev_21
  refine g_mem eμ_22 ?_
  obtain ⟨d_24, q_25, hd_26, hc_27, h⟩ := h
  refine g_cV ca_X10_249 ob_10 hc_27 hd_26 (by decide) hr0 rfl rfl (by first | exact Nat.le_of_ble_eq_true rfl | decide) dX10_planLine_31 (kI (fun v_29 μ_28 hq_30 => ?_))
  have h := h v_29 μ_28 hq_30
  refine g_istore_n dX10_planLine_34 (by decide) (fun x2_31 ex2_31 => g_sub (lv' := [(0, .ref (D.2.2 10 r0)), (1, .int x1_12), (2, .int x2_31)]) [1, 2, 0] rfl ?_)
  have h := h x2_31 ex2_31
  refine g_bipush (30 : Int32) dX10_planLine_35 rfl ?_
  refine g_bipush (6 : Int32) dX10_planLine_37 rfl ?_
  refine g_iload_n dX10_planLine_39 rfl ?_
  refine g_imul dX10_planLine_40 ?_
  refine g_iadd dX10_planLine_41 ?_
  refine g_iload_n dX10_planLine_42 rfl ?_
  refine g_iadd dX10_planLine_43 ?_
  refine g_istore_n dX10_planLine_44 (by decide) (fun x3_32 ex3_32 => g_sub (lv' := [(0, .ref (D.2.2 10 r0)), (3, .int x3_32)]) [1, 0] rfl ?_)
  have h := h x3_32 ex3_32
  refine g_aload_n dX10_planLine_45 rfl ?_
  refine g_gfI fi_10_199 hr0 dX10_planLine_46 ?_
  refine g_if_ne (tgt := 66) dX10_planLine_49 (by decide) (fun c_33 => ?_) (fun c_33 => ?_)
  · have h := h.1 c_33
    exact g_sub [0, 1] rfl h
  · have h := h.2 c_33
    refine g_aload_n dX10_planLine_52 rfl ?_
    refine g_gfR fl_10_40 rfl hr0 dX10_planLine_53 ?_
    refine g_iload_n dX10_planLine_56 rfl ?_
    obtain ⟨j_34, hj_34, ej_34, h⟩ := h
    refine g_iald j_34 hr0 rfl hj_34 (by decide) ej_34 dX10_planLine_57 ?_
    refine g_if_le (tgt := 66) dX10_planLine_58 (by decide) (fun c_35 => ?_) (fun c_35 => ?_)
    · have h := h.1 c_35
      exact g_sub [0, 1] rfl h
    · have h := h.2 c_35
      refine g_aload_n dX10_planLine_61 rfl ?_
      refine g_iconst (3 : Int32) dX10_planLine_62 rfl ?_
      obtain ⟨d_36, q_37, hd_38, hc_39, h⟩ := h
      refine g_cV ca_X10_208 ob_10 hc_39 hd_38 (by decide) hr0 rfl rfl (by first | exact Nat.le_of_ble_eq_true rfl | decide) dX10_planLine_63 (kV (fun μ_40 hq_42 => ?_))
      have h := h μ_40 hq_42
      exact g_sub [0, 1] rfl h
set_option maxRecDepth 20000 in
set_option maxHeartbeats 4000000 in
theorem bl_X10_planLine_1 {l : Launch} {D : gD} {d : Nat} {q : gMem → Prop} {Γ : gC} {r0 : Nat} {x3 : Int32} {μ : gMem} (hr0 : r0 < 1) (h : ∃ (d_1 : Nat) (q_2 : gMem → Prop), d_1 < d ∧ Ctr l D d_1 yX10_goOn cX10_goOn 1 none [.ref (D.2.2 10 r0)] μ (pV q_2) ∧ ∀ (μ_5 : gMem), q_2 μ_5 → ∃ (d_8 : Nat) (q_9 : Int32 → gMem → Prop), d_8 < d ∧ Ctr l D d_8 yX10_numeral cX10_numeral 4 (some .int) [.ref (D.2.2 10 r0), .int (1 : Int32), .int (9 : Int32)] μ_5 (pI q_9) ∧ ∀ (v_13 : Int32) (μ_12 : gMem), q_9 v_13 μ_12 → ∀ x4_15 : Int32, x4_15 = v_13 → (((μ_12.1 10 r0 24) = 0) → ∃ j_17 : Nat, j_17 < 60 ∧ x3 = nI j_17 ∧ (∀ μ_18 : gMem, μ_18 = gsI μ_12 716 r0 j_17 x4_15 → (0 < d) ∧ ((0 < d) ∧ (∀ μ_25 : gMem, μ_25 = gsI μ_18 707 r0 12 ((μ_18.1 707 r0 12) + (1 : Int32)) → q μ_25)))) ∧ ((¬ (μ_12.1 10 r0 24) = 0) → q μ_12)) : pt_X10_planLine_1 l D d q Γ r0 x3 μ := by
  unfold pt_X10_planLine_1
  refine g_aload_n dX10_planLine_66 rfl ?_
  obtain ⟨d_1, q_2, hd_3, hc_4, h⟩ := h
  refine g_cV ca_X10_252 ob_10 hc_4 hd_3 (by decide) hr0 rfl rfl (by first | exact Nat.le_of_ble_eq_true rfl | decide) dX10_planLine_67 (kV (fun μ_5 hq_7 => ?_))
  have h := h μ_5 hq_7
  refine g_aload_n dX10_planLine_70 rfl ?_
  refine g_iconst (1 : Int32) dX10_planLine_71 rfl ?_
  refine g_bipush (9 : Int32) dX10_planLine_72 rfl ?_
  obtain ⟨d_8, q_9, hd_10, hc_11, h⟩ := h
  refine g_cV ca_X10_229 ob_10 hc_11 hd_10 (by decide) hr0 rfl rfl (by first | exact Nat.le_of_ble_eq_true rfl | decide) dX10_planLine_74 (kI (fun v_13 μ_12 hq_14 => ?_))
  have h := h v_13 μ_12 hq_14
  refine g_istore dX10_planLine_77 (by decide) (fun x4_15 ex4_15 => g_sub (lv' := [(0, .ref (D.2.2 10 r0)), (3, .int x3), (4, .int x4_15)]) [1, 2, 0] rfl ?_)
  have h := h x4_15 ex4_15
  refine g_aload_n dX10_planLine_79 rfl ?_
  refine g_gfI fi_10_199 hr0 dX10_planLine_80 ?_
  refine g_if_eq (tgt := 87) dX10_planLine_83 (by decide) (fun c_16 => ?_) (fun c_16 => ?_)
  · have h := h.1 c_16
    refine g_aload_n dX10_planLine_87 rfl ?_
    refine g_gfR fl_10_40 rfl hr0 dX10_planLine_88 ?_
    refine g_iload_n dX10_planLine_91 rfl ?_
    refine g_iload dX10_planLine_92 rfl ?_
    obtain ⟨j_17, hj_17, ej_17, h⟩ := h
    refine g_iast j_17 hr0 rfl hj_17 (by decide) ej_17 dX10_planLine_94 ?_
    obtain ⟨μ_18, eμ_18⟩ : ∃ z : gMem, z = gsI μ_12 716 r0 j_17 x4_15 := ⟨_, rfl⟩
    have h := h μ_18 eμ_18
    refine g_mem eμ_18.symm ?_
    refine g_aload_n dX10_planLine_95 rfl ?_
    refine g_iconst (2 : Int32) dX10_planLine_96 rfl ?_
    refine g_aload_n dX10_planLine_97 rfl ?_
    refine g_iconst (2 : Int32) dX10_planLine_98 rfl ?_
    obtain ⟨hd_19, h⟩ := h
    refine g_cV ca_X10_215 ob_10 (c_X10_fresher (d := 0) (Nat.le_refl _) hr0 (n := 2) (by decide) rfl) hd_19 (by decide) hr0 rfl rfl (by first | exact Nat.le_of_ble_eq_true rfl | decide) dX10_planLine_99 (kI (fun v_20 μ_21 hq_22 => ?_))
    obtain ⟨ev_20, eμ_21⟩ := hq_22
    subst ev_20
    refine g_mem eμ_21 ?_
    refine g_iconst (1 : Int32) dX10_planLine_102 rfl ?_
    refine g_iadd dX10_planLine_103 ?_
    obtain ⟨hd_23, h⟩ := h
    refine g_cV ca_X10_233 ob_10 (c_X10_reads (d := 0) (Nat.le_refl _) hr0 (n := 2) (by decide) rfl) hd_23 (by decide) hr0 rfl rfl (by first | exact Nat.le_of_ble_eq_true rfl | decide) dX10_planLine_104 (kV (fun μ_25 hq_26 => ?_))
    have h := h μ_25 hq_26
    exact g_vret dX10_planLine_107 rfl ⟨rfl, h⟩
  · have h := h.2 c_16
    exact g_vret dX10_planLine_86 rfl ⟨rfl, h⟩
theorem en_X10_planLine {l : Launch} {D : gD} {d : Nat} {q : gMem → Prop} {r0 : Nat} {μ : gMem} (h : ∀ Γ : gC, pt_X10_planLine_0 l D d q Γ r0 μ) : Ctr l D d yX10_planLine cX10_planLine 5 none [.ref (D.2.2 10 r0)] μ (pV q) :=
  Ctr_of rfl (by decide) (Nat.le_of_ble_eq_true rfl) (fun Γ => g_sub [0] rfl (h Γ))
def pt_X10_lawLine_0 (l : Launch) (D : gD) (d : Nat) (q : gMem → Prop) (Γ : gC) (r0 : Nat) (μ : gMem) : Prop := G l D RX10 cX10_lawLine 2 none d (pV q) Γ 0 [(0, .ref (D.2.2 10 r0))] [] μ
def pt_X10_lawLine_1 (l : Launch) (D : gD) (d : Nat) (q : gMem → Prop) (Γ : gC) (r0 : Nat) (μ : gMem) : Prop := G l D RX10 cX10_lawLine 2 none d (pV q) Γ 25 [(0, .ref (D.2.2 10 r0))] [] μ
def pt_X10_lawLine_2 (l : Launch) (D : gD) (d : Nat) (q : gMem → Prop) (Γ : gC) (r0 : Nat) (μ : gMem) : Prop := G l D RX10 cX10_lawLine 2 none d (pV q) Γ 30 [(0, .ref (D.2.2 10 r0))] [] μ
def pt_X10_lawLine_3 (l : Launch) (D : gD) (d : Nat) (q : gMem → Prop) (Γ : gC) (r0 : Nat) (x1 : Int32) (μ : gMem) : Prop := G l D RX10 cX10_lawLine 2 none d (pV q) Γ 65 [(0, .ref (D.2.2 10 r0)), (1, .int x1)] [] μ
set_option maxRecDepth 20000 in
set_option maxHeartbeats 4000000 in
theorem bl_X10_lawLine_0 {l : Launch} {D : gD} {d : Nat} {q : gMem → Prop} {Γ : gC} {r0 : Nat} {μ : gMem} (hr0 : r0 < 1) (h : ((¬ (μ.1 10 r0 22) = 0) → pt_X10_lawLine_1 l D d q Γ r0 μ) ∧ (((μ.1 10 r0 22) = 0) → (((μ.1 10 r0 23) < (8 : Int32)) → pt_X10_lawLine_1 l D d q Γ r0 μ) ∧ ((¬ (μ.1 10 r0 23) < (8 : Int32)) → (((μ.1 10 r0 23) ≤ (10 : Int32)) → pt_X10_lawLine_2 l D d q Γ r0 μ) ∧ ((¬ (μ.1 10 r0 23) ≤ (10 : Int32)) → pt_X10_lawLine_1 l D d q Γ r0 μ)))) : pt_X10_lawLine_0 l D d q Γ r0 μ := by
  unfold pt_X10_lawLine_0
  refine g_aload_n dX10_lawLine_0 rfl ?_
  refine g_gfI fi_10_164 hr0 dX10_lawLine_1 ?_
  refine g_if_ne (tgt := 25) dX10_lawLine_4 (by decide) (fun c_1 => ?_) (fun c_1 => ?_)
  · have h := h.1 c_1
    exact g_sub [0] rfl h
  · have h := h.2 c_1
    refine g_aload_n dX10_lawLine_7 rfl ?_
    refine g_gfI fi_10_174 hr0 dX10_lawLine_8 ?_
    refine g_bipush (8 : Int32) dX10_lawLine_11 rfl ?_
    refine g_icmp_lt (tgt := 25) dX10_lawLine_13 (by decide) (fun c_2 => ?_) (fun c_2 => ?_)
    · have h := h.1 c_2
      exact g_sub [0] rfl h
    · have h := h.2 c_2
      refine g_aload_n dX10_lawLine_16 rfl ?_
      refine g_gfI fi_10_174 hr0 dX10_lawLine_17 ?_
      refine g_bipush (10 : Int32) dX10_lawLine_20 rfl ?_
      refine g_icmp_le (tgt := 30) dX10_lawLine_22 (by decide) (fun c_3 => ?_) (fun c_3 => ?_)
      · have h := h.1 c_3
        exact g_sub [0] rfl h
      · have h := h.2 c_3
        exact g_sub [0] rfl h
set_option maxRecDepth 20000 in
set_option maxHeartbeats 4000000 in
theorem bl_X10_lawLine_1 {l : Launch} {D : gD} {d : Nat} {q : gMem → Prop} {Γ : gC} {r0 : Nat} {μ : gMem} (hr0 : r0 < 1) (h : ∃ (d_1 : Nat) (q_2 : gMem → Prop), d_1 < d ∧ Ctr l D d_1 yX10_wrong cX10_wrong 2 none [.ref (D.2.2 10 r0), .int (1 : Int32)] μ (pV q_2) ∧ ∀ (μ_5 : gMem), q_2 μ_5 → pt_X10_lawLine_2 l D d q Γ r0 μ_5) : pt_X10_lawLine_1 l D d q Γ r0 μ := by
  unfold pt_X10_lawLine_1
  refine g_aload_n dX10_lawLine_25 rfl ?_
  refine g_iconst (1 : Int32) dX10_lawLine_26 rfl ?_
  obtain ⟨d_1, q_2, hd_3, hc_4, h⟩ := h
  refine g_cV ca_X10_208 ob_10 hc_4 hd_3 (by decide) hr0 rfl rfl (by first | exact Nat.le_of_ble_eq_true rfl | decide) dX10_lawLine_27 (kV (fun μ_5 hq_7 => ?_))
  have h := h μ_5 hq_7
  exact g_sub [0] rfl h
set_option maxRecDepth 20000 in
set_option maxHeartbeats 4000000 in
theorem bl_X10_lawLine_2 {l : Launch} {D : gD} {d : Nat} {q : gMem → Prop} {Γ : gC} {r0 : Nat} {μ : gMem} (hr0 : r0 < 1) (h : ∀ x1_1 : Int32, x1_1 = (μ.1 10 r0 23) - (8 : Int32) → ((¬ (μ.1 10 r0 24) = 0) → pt_X10_lawLine_3 l D d q Γ r0 x1_1 μ) ∧ (((μ.1 10 r0 24) = 0) → ((¬ (((μ.1 10 r0 17) >>> (((16 : Int32) + x1_1) &&& 31)) &&& (1 : Int32)) = (1 : Int32)) → pt_X10_lawLine_3 l D d q Γ r0 x1_1 μ) ∧ (((((μ.1 10 r0 17) >>> (((16 : Int32) + x1_1) &&& 31)) &&& (1 : Int32)) = (1 : Int32)) → ∃ (d_4 : Nat) (q_5 : gMem → Prop), d_4 < d ∧ Ctr l D d_4 yX10_wrong cX10_wrong 2 none [.ref (D.2.2 10 r0), .int (3 : Int32)] μ (pV q_5) ∧ ∀ (μ_8 : gMem), q_5 μ_8 → pt_X10_lawLine_3 l D d q Γ r0 x1_1 μ_8))) : pt_X10_lawLine_2 l D d q Γ r0 μ := by
  unfold pt_X10_lawLine_2
  refine g_aload_n dX10_lawLine_30 rfl ?_
  refine g_gfI fi_10_174 hr0 dX10_lawLine_31 ?_
  refine g_bipush (8 : Int32) dX10_lawLine_34 rfl ?_
  refine g_isub dX10_lawLine_36 ?_
  refine g_istore_n dX10_lawLine_37 (by decide) (fun x1_1 ex1_1 => g_sub (lv' := [(0, .ref (D.2.2 10 r0)), (1, .int x1_1)]) [1, 0] rfl ?_)
  have h := h x1_1 ex1_1
  refine g_aload_n dX10_lawLine_38 rfl ?_
  refine g_gfI fi_10_199 hr0 dX10_lawLine_39 ?_
  refine g_if_ne (tgt := 65) dX10_lawLine_42 (by decide) (fun c_2 => ?_) (fun c_2 => ?_)
  · have h := h.1 c_2
    exact g_sub [0, 1] rfl h
  · have h := h.2 c_2
    refine g_aload_n dX10_lawLine_45 rfl ?_
    refine g_gfI fi_10_222 hr0 dX10_lawLine_46 ?_
    refine g_bipush (16 : Int32) dX10_lawLine_49 rfl ?_
    refine g_iload_n dX10_lawLine_51 rfl ?_
    refine g_iadd dX10_lawLine_52 ?_
    refine g_ishr dX10_lawLine_53 ?_
    refine g_iconst (1 : Int32) dX10_lawLine_54 rfl ?_
    refine g_iand dX10_lawLine_55 ?_
    refine g_iconst (1 : Int32) dX10_lawLine_56 rfl ?_
    refine g_icmp_ne (tgt := 65) dX10_lawLine_57 (by decide) (fun c_3 => ?_) (fun c_3 => ?_)
    · have h := h.1 c_3
      exact g_sub [0, 1] rfl h
    · have h := h.2 c_3
      refine g_aload_n dX10_lawLine_60 rfl ?_
      refine g_iconst (3 : Int32) dX10_lawLine_61 rfl ?_
      obtain ⟨d_4, q_5, hd_6, hc_7, h⟩ := h
      refine g_cV ca_X10_208 ob_10 hc_7 hd_6 (by decide) hr0 rfl rfl (by first | exact Nat.le_of_ble_eq_true rfl | decide) dX10_lawLine_62 (kV (fun μ_8 hq_10 => ?_))
      have h := h μ_8 hq_10
      exact g_sub [0, 1] rfl h
set_option maxRecDepth 20000 in
set_option maxHeartbeats 4000000 in
theorem bl_X10_lawLine_3 {l : Launch} {D : gD} {d : Nat} {q : gMem → Prop} {Γ : gC} {r0 : Nat} {x1 : Int32} {μ : gMem} (hr0 : r0 < 1) (h : (((μ.1 10 r0 24) = 0) → ∀ μ_2 : gMem, μ_2 = gsI μ 10 r0 17 ((μ.1 10 r0 17) ||| ((1 : Int32) <<< (((16 : Int32) + x1) &&& 31))) → ∃ (d_3 : Nat) (q_4 : gMem → Prop), d_3 < d ∧ Ctr l D d_3 yX10_token cX10_token 2 none [.ref (D.2.2 10 r0)] μ_2 (pV q_4) ∧ ∀ (μ_7 : gMem), q_4 μ_7 → (0 < d) ∧ (∃ j_14 : Nat, j_14 < 6 ∧ (3 : Int32) + x1 = nI j_14 ∧ (∀ μ_15 : gMem, μ_15 = gsI μ_7 717 r0 j_14 (μ_7.1 707 r0 19) → ∃ (d_16 : Nat) (q_17 : gMem → Prop), d_16 < d ∧ Ctr l D d_16 yX10_expression cX10_expression 1 none [.ref (D.2.2 10 r0)] μ_15 (pV q_17) ∧ ∀ (μ_20 : gMem), q_17 μ_20 → (0 < d) ∧ (∃ j_27 : Nat, j_27 < 6 ∧ (3 : Int32) + x1 = nI j_27 ∧ (∀ μ_28 : gMem, μ_28 = gsI μ_20 718 r0 j_27 (μ_20.1 707 r0 19) → q μ_28))))) ∧ ((¬ (μ.1 10 r0 24) = 0) → q μ)) : pt_X10_lawLine_3 l D d q Γ r0 x1 μ := by
  unfold pt_X10_lawLine_3
  refine g_aload_n dX10_lawLine_65 rfl ?_
  refine g_gfI fi_10_199 hr0 dX10_lawLine_66 ?_
  refine g_if_eq (tgt := 73) dX10_lawLine_69 (by decide) (fun c_1 => ?_) (fun c_1 => ?_)
  · have h := h.1 c_1
    refine g_aload_n dX10_lawLine_73 rfl ?_
    refine g_dup dX10_lawLine_74 rfl ?_
    refine g_gfI fi_10_222 hr0 dX10_lawLine_75 ?_
    refine g_iconst (1 : Int32) dX10_lawLine_78 rfl ?_
    refine g_bipush (16 : Int32) dX10_lawLine_79 rfl ?_
    refine g_iload_n dX10_lawLine_81 rfl ?_
    refine g_iadd dX10_lawLine_82 ?_
    refine g_ishl dX10_lawLine_83 ?_
    refine g_ior dX10_lawLine_84 ?_
    refine g_pfI fi_10_222 hr0 rfl rfl dX10_lawLine_85 ?_
    obtain ⟨μ_2, eμ_2⟩ : ∃ z : gMem, z = gsI μ 10 r0 17 ((μ.1 10 r0 17) ||| ((1 : Int32) <<< (((16 : Int32) + x1) &&& 31))) := ⟨_, rfl⟩
    have h := h μ_2 eμ_2
    refine g_mem eμ_2.symm ?_
    refine g_aload_n dX10_lawLine_88 rfl ?_
    obtain ⟨d_3, q_4, hd_5, hc_6, h⟩ := h
    refine g_cV ca_X10_205 ob_10 hc_6 hd_5 (by decide) hr0 rfl rfl (by first | exact Nat.le_of_ble_eq_true rfl | decide) dX10_lawLine_89 (kV (fun μ_7 hq_9 => ?_))
    have h := h μ_7 hq_9
    refine g_aload_n dX10_lawLine_92 rfl ?_
    refine g_gfR fl_10_43 rfl hr0 dX10_lawLine_93 ?_
    refine g_iconst (3 : Int32) dX10_lawLine_96 rfl ?_
    refine g_iload_n dX10_lawLine_97 rfl ?_
    refine g_iadd dX10_lawLine_98 ?_
    refine g_aload_n dX10_lawLine_99 rfl ?_
    refine g_bipush (9 : Int32) dX10_lawLine_100 rfl ?_
    obtain ⟨hd_10, h⟩ := h
    refine g_cV ca_X10_215 ob_10 (c_X10_fresher (d := 0) (Nat.le_refl _) hr0 (n := 9) (by decide) rfl) hd_10 (by decide) hr0 rfl rfl (by first | exact Nat.le_of_ble_eq_true rfl | decide) dX10_lawLine_102 (kI (fun v_11 μ_12 hq_13 => ?_))
    obtain ⟨ev_11, eμ_12⟩ := hq_13
    subst ev_11
    refine g_mem eμ_12 ?_
    obtain ⟨j_14, hj_14, ej_14, h⟩ := h
    refine g_iast j_14 hr0 rfl hj_14 (by decide) ej_14 dX10_lawLine_105 ?_
    obtain ⟨μ_15, eμ_15⟩ : ∃ z : gMem, z = gsI μ_7 717 r0 j_14 (μ_7.1 707 r0 19) := ⟨_, rfl⟩
    have h := h μ_15 eμ_15
    refine g_mem eμ_15.symm ?_
    refine g_aload_n dX10_lawLine_106 rfl ?_
    obtain ⟨d_16, q_17, hd_18, hc_19, h⟩ := h
    refine g_cV ca_X10_255 ob_10 hc_19 hd_18 (by decide) hr0 rfl rfl (by first | exact Nat.le_of_ble_eq_true rfl | decide) dX10_lawLine_107 (kV (fun μ_20 hq_22 => ?_))
    have h := h μ_20 hq_22
    refine g_aload_n dX10_lawLine_110 rfl ?_
    refine g_gfR fl_10_46 rfl hr0 dX10_lawLine_111 ?_
    refine g_iconst (3 : Int32) dX10_lawLine_114 rfl ?_
    refine g_iload_n dX10_lawLine_115 rfl ?_
    refine g_iadd dX10_lawLine_116 ?_
    refine g_aload_n dX10_lawLine_117 rfl ?_
    refine g_bipush (9 : Int32) dX10_lawLine_118 rfl ?_
    obtain ⟨hd_23, h⟩ := h
    refine g_cV ca_X10_215 ob_10 (c_X10_fresher (d := 0) (Nat.le_refl _) hr0 (n := 9) (by decide) rfl) hd_23 (by decide) hr0 rfl rfl (by first | exact Nat.le_of_ble_eq_true rfl | decide) dX10_lawLine_120 (kI (fun v_24 μ_25 hq_26 => ?_))
    obtain ⟨ev_24, eμ_25⟩ := hq_26
    subst ev_24
    refine g_mem eμ_25 ?_
    obtain ⟨j_27, hj_27, ej_27, h⟩ := h
    refine g_iast j_27 hr0 rfl hj_27 (by decide) ej_27 dX10_lawLine_123 ?_
    obtain ⟨μ_28, eμ_28⟩ : ∃ z : gMem, z = gsI μ_20 718 r0 j_27 (μ_20.1 707 r0 19) := ⟨_, rfl⟩
    have h := h μ_28 eμ_28
    refine g_mem eμ_28.symm ?_
    exact g_vret dX10_lawLine_124 rfl ⟨rfl, h⟩
  · have h := h.2 c_1
    exact g_vret dX10_lawLine_72 rfl ⟨rfl, h⟩
theorem en_X10_lawLine {l : Launch} {D : gD} {d : Nat} {q : gMem → Prop} {r0 : Nat} {μ : gMem} (h : ∀ Γ : gC, pt_X10_lawLine_0 l D d q Γ r0 μ) : Ctr l D d yX10_lawLine cX10_lawLine 2 none [.ref (D.2.2 10 r0)] μ (pV q) :=
  Ctr_of rfl (by decide) (Nat.le_of_ble_eq_true rfl) (fun Γ => g_sub [0] rfl (h Γ))
