def pt_X9_earns_0 (l : Launch) (D : gD) (d : Nat) (q : Int32 → gMem → Prop) (Γ : gC) (r0 : Nat) (x1 : Int32) (x2 : Int32) (x3 : Int32) (μ : gMem) : Prop := G l D RX9 cX9_earns 6 (some .int) d (pI q) Γ 0 [(0, .ref (D.2.2 9 r0)), (1, .int x1), (2, .int x2), (3, .int x3)] [] μ
set_option maxRecDepth 20000 in
set_option maxHeartbeats 4000000 in
theorem bl_X9_earns_0 {l : Launch} {D : gD} {d : Nat} {q : Int32 → gMem → Prop} {Γ : gC} {r0 : Nat} {x1 : Int32} {x2 : Int32} {x3 : Int32} {μ : gMem} (hr0 : r0 < 1) (h : (1 < d) ∧ (μ.2.2 0 < 2) ∧ ((((iw x1 (0 : Int32) (μ.1 7 (μ.2.2 0) 0 - (1 : Int32))) = 0) → q (-1 : Int32) μ) ∧ ((¬ (iw x1 (0 : Int32) (μ.1 7 (μ.2.2 0) 0 - (1 : Int32))) = 0) → (0 < d) ∧ ((((iw x2 (0 : Int32) (60 : Int32)) = 0) → q (-1 : Int32) μ) ∧ ((¬ (iw x2 (0 : Int32) (60 : Int32)) = 0) → (0 < d) ∧ (((¬ (iw x3 (0 : Int32) (1 : Int32)) = 0) → ∃ (d_17 : Nat) (q_18 : gMem → Prop), d_17 < d ∧ Ctr l D d_17 yX9_lookAtAll cX9_lookAtAll 1 none [.ref (D.2.2 9 r0)] μ (pV q_18) ∧ ∀ (μ_21 : gMem), q_18 μ_21 → ∃ (d_24 : Nat) (q_25 : gMem → Prop), d_24 < d ∧ Ctr l D d_24 yX9_passAsItGoes cX9_passAsItGoes 4 none [.ref (D.2.2 9 r0), .int x2] μ_21 (pV q_25) ∧ ∀ (μ_28 : gMem), q_25 μ_28 → ∃ j_31 : Nat, j_31 < 5 ∧ x1 = nI j_31 ∧ (∃ j_33 : Nat, j_33 < 5 ∧ x1 = nI j_33 ∧ (((¬ x3 = 0) → q ((μ_28.1 4 (5 * 2 + j_33) 8) - (μ_28.1 4 (5 * 0 + j_31) 8)) μ_28) ∧ ((x3 = 0) → q ((μ_28.1 4 (5 * 2 + j_33) 7) - (μ_28.1 4 (5 * 0 + j_31) 7)) μ_28)))) ∧ (((iw x3 (0 : Int32) (1 : Int32)) = 0) → q (-1 : Int32) μ))))))) : pt_X9_earns_0 l D d q Γ r0 x1 x2 x3 μ := by
  unfold pt_X9_earns_0
  refine g_aload_n dX9_earns_0 rfl ?_
  refine g_iload_n dX9_earns_1 rfl ?_
  obtain ⟨hd_1, hs_2, h⟩ := h
  refine g_cV ca_X9_121 ob_9 (c_X9_isMan (d := 1) (Nat.le_refl _) hr0 hs_2 ) hd_1 (by decide) hr0 rfl rfl (by first | exact Nat.le_of_ble_eq_true rfl | decide) dX9_earns_2 (kI (fun v_3 μ_4 hq_5 => ?_))
  obtain ⟨ev_3, eμ_4⟩ := hq_5
  subst ev_3
  refine g_mem eμ_4 ?_
  refine g_if_eq (tgt := 27) dX9_earns_5 (by decide) (fun c_6 => ?_) (fun c_6 => ?_)
  · have h := h.1 c_6
    refine g_iconst (-1 : Int32) dX9_earns_27 rfl ?_
    exact g_iret dX9_earns_28 rfl rfl ⟨_, rfl, h⟩
  · have h := h.2 c_6
    refine g_iload_n dX9_earns_8 rfl ?_
    refine g_iconst (0 : Int32) dX9_earns_9 rfl ?_
    refine g_bipush (60 : Int32) dX9_earns_10 rfl ?_
    obtain ⟨hd_7, h⟩ := h
    refine g_callS ca_X9_194 (c_X9_isWithin (d := 0) (Nat.le_refl _) ) hd_7 (by decide) rfl rfl (by first | exact Nat.le_of_ble_eq_true rfl | decide) dX9_earns_12 (kI (fun v_8 μ_9 hq_10 => ?_))
    obtain ⟨ev_8, eμ_9⟩ := hq_10
    subst ev_8
    refine g_mem eμ_9 ?_
    refine g_if_eq (tgt := 27) dX9_earns_15 (by decide) (fun c_11 => ?_) (fun c_11 => ?_)
    · have h := h.1 c_11
      refine g_iconst (-1 : Int32) dX9_earns_27 rfl ?_
      exact g_iret dX9_earns_28 rfl rfl ⟨_, rfl, h⟩
    · have h := h.2 c_11
      refine g_iload_n dX9_earns_18 rfl ?_
      refine g_iconst (0 : Int32) dX9_earns_19 rfl ?_
      refine g_iconst (1 : Int32) dX9_earns_20 rfl ?_
      obtain ⟨hd_12, h⟩ := h
      refine g_callS ca_X9_194 (c_X9_isWithin (d := 0) (Nat.le_refl _) ) hd_12 (by decide) rfl rfl (by first | exact Nat.le_of_ble_eq_true rfl | decide) dX9_earns_21 (kI (fun v_13 μ_14 hq_15 => ?_))
      obtain ⟨ev_13, eμ_14⟩ := hq_15
      subst ev_13
      refine g_mem eμ_14 ?_
      refine g_if_ne (tgt := 29) dX9_earns_24 (by decide) (fun c_16 => ?_) (fun c_16 => ?_)
      · have h := h.1 c_16
        refine g_aload_n dX9_earns_29 rfl ?_
        obtain ⟨d_17, q_18, hd_19, hc_20, h⟩ := h
        refine g_cV ca_X9_268 ob_9 hc_20 hd_19 (by decide) hr0 rfl rfl (by first | exact Nat.le_of_ble_eq_true rfl | decide) dX9_earns_30 (kV (fun μ_21 hq_23 => ?_))
        have h := h μ_21 hq_23
        refine g_aload_n dX9_earns_33 rfl ?_
        refine g_iload_n dX9_earns_34 rfl ?_
        obtain ⟨d_24, q_25, hd_26, hc_27, h⟩ := h
        refine g_cV ca_X9_247 ob_9 hc_27 hd_26 (by decide) hr0 rfl rfl (by first | exact Nat.le_of_ble_eq_true rfl | decide) dX9_earns_35 (kV (fun μ_28 hq_30 => ?_))
        have h := h μ_28 hq_30
        refine g_aload_n dX9_earns_38 rfl ?_
        refine g_gfR fl_9_38 rfl hr0 dX9_earns_39 ?_
        refine g_gfR fl_9_132 rfl (by decide) dX9_earns_42 ?_
        refine g_iload_n dX9_earns_45 rfl ?_
        obtain ⟨j_31, hj_31, ej_31, h⟩ := h
        refine g_aald j_31 (by decide) hj_31 ej_31 dX9_earns_46 ?_
        have hp_32 : 5 * 0 + j_31 < 15 := by have : 0 < 3 := (by decide); omega
        refine g_astore dX9_earns_47 (by decide) (g_sub (lv' := [(0, .ref (D.2.2 9 r0)), (1, .int x1), (3, .int x3), (4, .ref (D.2.2 4 (5 * 0 + j_31)))]) [1, 2, 4, 0] rfl ?_)
        refine g_aload_n dX9_earns_49 rfl ?_
        refine g_gfR fl_9_45 rfl hr0 dX9_earns_50 ?_
        refine g_gfR fl_9_132 rfl (by decide) dX9_earns_53 ?_
        refine g_iload_n dX9_earns_56 rfl ?_
        obtain ⟨j_33, hj_33, ej_33, h⟩ := h
        refine g_aald j_33 (by decide) hj_33 ej_33 dX9_earns_57 ?_
        have hp_34 : 5 * 2 + j_33 < 15 := by have : 2 < 3 := (by decide); omega
        refine g_astore dX9_earns_58 (by decide) (g_sub (lv' := [(3, .int x3), (4, .ref (D.2.2 4 (5 * 0 + j_31))), (5, .ref (D.2.2 4 (5 * 2 + j_33)))]) [3, 4, 0] rfl ?_)
        refine g_iload_n dX9_earns_60 rfl ?_
        refine g_if_ne (tgt := 78) dX9_earns_61 (by decide) (fun c_35 => ?_) (fun c_35 => ?_)
        · have h := h.1 c_35
          refine g_aload dX9_earns_78 rfl ?_
          refine g_gfI fi_9_176 hp_34 dX9_earns_80 ?_
          refine g_aload dX9_earns_83 rfl ?_
          refine g_gfI fi_9_176 hp_32 dX9_earns_85 ?_
          refine g_isub dX9_earns_88 ?_
          exact g_iret dX9_earns_89 rfl rfl ⟨_, rfl, h⟩
        · have h := h.2 c_35
          refine g_aload dX9_earns_64 rfl ?_
          refine g_gfI fi_9_173 hp_34 dX9_earns_66 ?_
          refine g_aload dX9_earns_69 rfl ?_
          refine g_gfI fi_9_173 hp_32 dX9_earns_71 ?_
          refine g_isub dX9_earns_74 ?_
          refine g_goto (tgt := 89) dX9_earns_75 (by decide) ?_
          exact g_iret dX9_earns_89 rfl rfl ⟨_, rfl, h⟩
      · have h := h.2 c_16
        refine g_iconst (-1 : Int32) dX9_earns_27 rfl ?_
        exact g_iret dX9_earns_28 rfl rfl ⟨_, rfl, h⟩
theorem en_X9_earns {l : Launch} {D : gD} {d : Nat} {q : Int32 → gMem → Prop} {r0 : Nat} {x1 : Int32} {x2 : Int32} {x3 : Int32} {μ : gMem} (h : ∀ Γ : gC, pt_X9_earns_0 l D d q Γ r0 x1 x2 x3 μ) : Ctr l D d yX9_earns cX9_earns 6 (some .int) [.ref (D.2.2 9 r0), .int x1, .int x2, .int x3] μ (pI q) :=
  Ctr_of rfl (by decide) (Nat.le_of_ble_eq_true rfl) (fun Γ => g_sub [0, 1, 2, 3] rfl (h Γ))
def pt_X9_falseOnes_0 (l : Launch) (D : gD) (d : Nat) (q : Int32 → gMem → Prop) (Γ : gC) (r0 : Nat) (x1 : Int32) (x2 : Int32) (μ : gMem) : Prop := G l D RX9 cX9_falseOnes 7 (some .int) d (pI q) Γ 0 [(0, .ref (D.2.2 9 r0)), (1, .int x1), (2, .int x2)] [] μ
def pt_X9_falseOnes_1 (l : Launch) (D : gD) (d : Nat) (q : Int32 → gMem → Prop) (Γ : gC) (r0 : Nat) (x2 : Int32) (r3 : Nat) (x4 : Int32) (x5 : Int32) (x6 : Int32) (μ : gMem) : Prop := G l D RX9 cX9_falseOnes 7 (some .int) d (pI q) Γ 38 [(0, .ref (D.2.2 9 r0)), (2, .int x2), (3, .ref (D.2.2 4 r3)), (4, .int x4), (5, .int x5), (6, .int x6)] [] μ
def pt_X9_falseOnes_2 (l : Launch) (D : gD) (d : Nat) (q : Int32 → gMem → Prop) (Γ : gC) (x6 : Int32) (xs0 : Int32) (μ : gMem) : Prop := G l D RX9 cX9_falseOnes 7 (some .int) d (pI q) Γ 144 [(6, .int x6)] [.int xs0] μ
set_option maxRecDepth 20000 in
set_option maxHeartbeats 4000000 in
theorem bl_X9_falseOnes_0 {l : Launch} {D : gD} {d : Nat} {q : Int32 → gMem → Prop} {Γ : gC} {r0 : Nat} {x1 : Int32} {x2 : Int32} {μ : gMem} (hr0 : r0 < 1) (h : (1 < d) ∧ (μ.2.2 0 < 2) ∧ ((((iw x1 (0 : Int32) (μ.1 7 (μ.2.2 0) 0 - (1 : Int32))) = 0) → q (-1 : Int32) μ) ∧ ((¬ (iw x1 (0 : Int32) (μ.1 7 (μ.2.2 0) 0 - (1 : Int32))) = 0) → (0 < d) ∧ (((¬ (iw x2 (0 : Int32) (1 : Int32)) = 0) → ∃ j_12 : Nat, j_12 < 5 ∧ x1 = nI j_12 ∧ (∀ x4_14 : Int32, x4_14 = (0 : Int32) → ∀ x5_15 : Int32, x5_15 = (0 : Int32) → ∀ x6_16 : Int32, x6_16 = (0 : Int32) → pt_X9_falseOnes_1 l D d q Γ r0 x2 (5 * 0 + j_12) x4_14 x5_15 x6_16 μ)) ∧ (((iw x2 (0 : Int32) (1 : Int32)) = 0) → q (-1 : Int32) μ))))) : pt_X9_falseOnes_0 l D d q Γ r0 x1 x2 μ := by
  unfold pt_X9_falseOnes_0
  refine g_aload_n dX9_falseOnes_0 rfl ?_
  refine g_iload_n dX9_falseOnes_1 rfl ?_
  obtain ⟨hd_1, hs_2, h⟩ := h
  refine g_cV ca_X9_121 ob_9 (c_X9_isMan (d := 1) (Nat.le_refl _) hr0 hs_2 ) hd_1 (by decide) hr0 rfl rfl (by first | exact Nat.le_of_ble_eq_true rfl | decide) dX9_falseOnes_2 (kI (fun v_3 μ_4 hq_5 => ?_))
  obtain ⟨ev_3, eμ_4⟩ := hq_5
  subst ev_3
  refine g_mem eμ_4 ?_
  refine g_if_eq (tgt := 17) dX9_falseOnes_5 (by decide) (fun c_6 => ?_) (fun c_6 => ?_)
  · have h := h.1 c_6
    refine g_iconst (-1 : Int32) dX9_falseOnes_17 rfl ?_
    exact g_iret dX9_falseOnes_18 rfl rfl ⟨_, rfl, h⟩
  · have h := h.2 c_6
    refine g_iload_n dX9_falseOnes_8 rfl ?_
    refine g_iconst (0 : Int32) dX9_falseOnes_9 rfl ?_
    refine g_iconst (1 : Int32) dX9_falseOnes_10 rfl ?_
    obtain ⟨hd_7, h⟩ := h
    refine g_callS ca_X9_194 (c_X9_isWithin (d := 0) (Nat.le_refl _) ) hd_7 (by decide) rfl rfl (by first | exact Nat.le_of_ble_eq_true rfl | decide) dX9_falseOnes_11 (kI (fun v_8 μ_9 hq_10 => ?_))
    obtain ⟨ev_8, eμ_9⟩ := hq_10
    subst ev_8
    refine g_mem eμ_9 ?_
    refine g_if_ne (tgt := 19) dX9_falseOnes_14 (by decide) (fun c_11 => ?_) (fun c_11 => ?_)
    · have h := h.1 c_11
      refine g_aload_n dX9_falseOnes_19 rfl ?_
      refine g_gfR fl_9_38 rfl hr0 dX9_falseOnes_20 ?_
      refine g_gfR fl_9_132 rfl (by decide) dX9_falseOnes_23 ?_
      refine g_iload_n dX9_falseOnes_26 rfl ?_
      obtain ⟨j_12, hj_12, ej_12, h⟩ := h
      refine g_aald j_12 (by decide) hj_12 ej_12 dX9_falseOnes_27 ?_
      have hp_13 : 5 * 0 + j_12 < 15 := by have : 0 < 3 := (by decide); omega
      refine g_astore_n dX9_falseOnes_28 (by decide) (g_sub (lv' := [(0, .ref (D.2.2 9 r0)), (2, .int x2), (3, .ref (D.2.2 4 (5 * 0 + j_12)))]) [1, 3, 0] rfl ?_)
      refine g_iconst (0 : Int32) dX9_falseOnes_29 rfl ?_
      refine g_istore dX9_falseOnes_30 (by decide) (fun x4_14 ex4_14 => g_sub (lv' := [(0, .ref (D.2.2 9 r0)), (2, .int x2), (3, .ref (D.2.2 4 (5 * 0 + j_12))), (4, .int x4_14)]) [1, 2, 3, 0] rfl ?_)
      have h := h x4_14 ex4_14
      refine g_iconst (0 : Int32) dX9_falseOnes_32 rfl ?_
      refine g_istore dX9_falseOnes_33 (by decide) (fun x5_15 ex5_15 => g_sub (lv' := [(0, .ref (D.2.2 9 r0)), (2, .int x2), (3, .ref (D.2.2 4 (5 * 0 + j_12))), (4, .int x4_14), (5, .int x5_15)]) [1, 2, 3, 4, 0] rfl ?_)
      have h := h x5_15 ex5_15
      refine g_iconst (0 : Int32) dX9_falseOnes_35 rfl ?_
      refine g_istore dX9_falseOnes_36 (by decide) (fun x6_16 ex6_16 => g_sub (lv' := [(0, .ref (D.2.2 9 r0)), (2, .int x2), (3, .ref (D.2.2 4 (5 * 0 + j_12))), (4, .int x4_14), (5, .int x5_15), (6, .int x6_16)]) [1, 2, 3, 4, 5, 0] rfl ?_)
      have h := h x6_16 ex6_16
      exact g_sub [0, 1, 2, 3, 4, 5] rfl h
    · have h := h.2 c_11
      refine g_iconst (-1 : Int32) dX9_falseOnes_17 rfl ?_
      exact g_iret dX9_falseOnes_18 rfl rfl ⟨_, rfl, h⟩
set_option maxRecDepth 20000 in
set_option maxHeartbeats 4000000 in
theorem bl_X9_falseOnes_1 {l : Launch} {D : gD} {d : Nat} {q : Int32 → gMem → Prop} {Γ : gC} {r0 : Nat} {x2 : Int32} {r3 : Nat} {x4 : Int32} {x5 : Int32} {x6 : Int32} {μ : gMem} (hr0 : r0 < 1) (hr3 : r3 < 15) (h : (μ.2.2 0 < 2) ∧ ((((μ.1 7 (μ.2.2 0) 5) ≤ x6) → ∃ (d_3 : Nat) (q_4 : Int32 → gMem → Prop), d_3 < d ∧ Ctr l D d_3 yX9_commonDivisor cX9_commonDivisor 6 (some .int) [.int x5, .int x4] μ (pI q_4) ∧ ∀ (v_8 : Int32) (μ_7 : gMem), q_4 v_8 μ_7 → ∀ x6_10 : Int32, x6_10 = v_8 → ((¬ x6_10 = 0) → ((¬ x2 = 0) → pt_X9_falseOnes_2 l D d q Γ x6_10 x4 μ_7) ∧ ((x2 = 0) → pt_X9_falseOnes_2 l D d q Γ x6_10 x5 μ_7)) ∧ ((x6_10 = 0) → q x2 μ_7)) ∧ ((¬ (μ.1 7 (μ.2.2 0) 5) ≤ x6) → ∃ j_13 : Nat, j_13 < 6 ∧ x6 = nI j_13 ∧ ((μ.2.2 0 < 2) ∧ (∃ j_15 : Nat, j_15 < 6 ∧ x6 = nI j_15 ∧ (∀ x4_16 : Int32, x4_16 = x4 + ((μ.1 331 r3 j_13) * (μ.1 520 (μ.2.2 0) j_15)) → ∃ j_17 : Nat, j_17 < 6 ∧ x6 = nI j_17 ∧ ((μ.2.2 0 < 2) ∧ (∃ j_19 : Nat, j_19 < 6 ∧ x6 = nI j_19 ∧ ((μ.2.2 0 < 2) ∧ (∃ j_21 : Nat, j_21 < 6 ∧ x6 = nI j_21 ∧ ((0 < d) ∧ (∀ x5_23 : Int32, x5_23 = x5 + ((μ.1 331 r3 j_17) * (imax (0 : Int32) ((μ.1 520 (μ.2.2 0) j_19) - (μ.1 519 (μ.2.2 0) j_21)))) → ∀ x6_24 : Int32, x6_24 = x6 + (1 : Int32) → pt_X9_falseOnes_1 l D d q Γ r0 x2 r3 x4_16 x5_23 x6_24 μ)))))))))))) : pt_X9_falseOnes_1 l D d q Γ r0 x2 r3 x4 x5 x6 μ := by
  unfold pt_X9_falseOnes_1
  refine g_iload dX9_falseOnes_38 rfl ?_
  refine g_aload_n dX9_falseOnes_40 rfl ?_
  obtain ⟨hR_1, h⟩ := h
  refine g_gfR fl_9_28 rfl hr0 dX9_falseOnes_41 ?_
  refine g_gfI fi_9_118 hR_1 dX9_falseOnes_44 ?_
  refine g_icmp_ge (tgt := 117) dX9_falseOnes_47 (by decide) (fun c_2 => ?_) (fun c_2 => ?_)
  · have h := h.1 c_2
    refine g_iload dX9_falseOnes_117 rfl ?_
    refine g_iload dX9_falseOnes_119 rfl ?_
    obtain ⟨d_3, q_4, hd_5, hc_6, h⟩ := h
    refine g_callS ca_X9_290 hc_6 hd_5 (by decide) rfl rfl (by first | exact Nat.le_of_ble_eq_true rfl | decide) dX9_falseOnes_121 (kI (fun v_8 μ_7 hq_9 => ?_))
    have h := h v_8 μ_7 hq_9
    refine g_istore dX9_falseOnes_124 (by decide) (fun x6_10 ex6_10 => g_sub (lv' := [(2, .int x2), (4, .int x4), (5, .int x5), (6, .int x6_10)]) [2, 4, 5, 0] rfl ?_)
    have h := h x6_10 ex6_10
    refine g_iload dX9_falseOnes_126 rfl ?_
    refine g_if_ne (tgt := 133) dX9_falseOnes_128 (by decide) (fun c_11 => ?_) (fun c_11 => ?_)
    · have h := h.1 c_11
      refine g_iload_n dX9_falseOnes_133 rfl ?_
      refine g_if_ne (tgt := 142) dX9_falseOnes_134 (by decide) (fun c_12 => ?_) (fun c_12 => ?_)
      · have h := h.1 c_12
        refine g_iload dX9_falseOnes_142 rfl ?_
        exact g_sub [3] rfl h
      · have h := h.2 c_12
        refine g_iload dX9_falseOnes_137 rfl ?_
        refine g_goto (tgt := 144) dX9_falseOnes_139 (by decide) ?_
        exact g_sub [3] rfl h
    · have h := h.2 c_11
      refine g_iload_n dX9_falseOnes_131 rfl ?_
      exact g_iret dX9_falseOnes_132 rfl rfl ⟨_, rfl, h⟩
  · have h := h.2 c_2
    refine g_iload dX9_falseOnes_50 rfl ?_
    refine g_aload_n dX9_falseOnes_52 rfl ?_
    refine g_gfR fl_9_191 rfl hr3 dX9_falseOnes_53 ?_
    refine g_iload dX9_falseOnes_56 rfl ?_
    obtain ⟨j_13, hj_13, ej_13, h⟩ := h
    refine g_iald j_13 hr3 rfl hj_13 (by decide) ej_13 dX9_falseOnes_58 ?_
    refine g_aload_n dX9_falseOnes_59 rfl ?_
    obtain ⟨hR_14, h⟩ := h
    refine g_gfR fl_9_28 rfl hr0 dX9_falseOnes_60 ?_
    refine g_gfR fl_9_185 rfl hR_14 dX9_falseOnes_63 ?_
    refine g_iload dX9_falseOnes_66 rfl ?_
    obtain ⟨j_15, hj_15, ej_15, h⟩ := h
    refine g_iald j_15 hR_14 rfl hj_15 (by decide) ej_15 dX9_falseOnes_68 ?_
    refine g_imul dX9_falseOnes_69 ?_
    refine g_iadd dX9_falseOnes_70 ?_
    refine g_istore dX9_falseOnes_71 (by decide) (fun x4_16 ex4_16 => g_sub (lv' := [(0, .ref (D.2.2 9 r0)), (2, .int x2), (3, .ref (D.2.2 4 r3)), (4, .int x4_16), (5, .int x5), (6, .int x6)]) [1, 2, 3, 0, 4, 5] rfl ?_)
    have h := h x4_16 ex4_16
    refine g_iload dX9_falseOnes_73 rfl ?_
    refine g_aload_n dX9_falseOnes_75 rfl ?_
    refine g_gfR fl_9_191 rfl hr3 dX9_falseOnes_76 ?_
    refine g_iload dX9_falseOnes_79 rfl ?_
    obtain ⟨j_17, hj_17, ej_17, h⟩ := h
    refine g_iald j_17 hr3 rfl hj_17 (by decide) ej_17 dX9_falseOnes_81 ?_
    refine g_iconst (0 : Int32) dX9_falseOnes_82 rfl ?_
    refine g_aload_n dX9_falseOnes_83 rfl ?_
    obtain ⟨hR_18, h⟩ := h
    refine g_gfR fl_9_28 rfl hr0 dX9_falseOnes_84 ?_
    refine g_gfR fl_9_185 rfl hR_18 dX9_falseOnes_87 ?_
    refine g_iload dX9_falseOnes_90 rfl ?_
    obtain ⟨j_19, hj_19, ej_19, h⟩ := h
    refine g_iald j_19 hR_18 rfl hj_19 (by decide) ej_19 dX9_falseOnes_92 ?_
    refine g_aload_n dX9_falseOnes_93 rfl ?_
    obtain ⟨hR_20, h⟩ := h
    refine g_gfR fl_9_28 rfl hr0 dX9_falseOnes_94 ?_
    refine g_gfR fl_9_182 rfl hR_20 dX9_falseOnes_97 ?_
    refine g_iload dX9_falseOnes_100 rfl ?_
    obtain ⟨j_21, hj_21, ej_21, h⟩ := h
    refine g_iald j_21 hR_20 rfl hj_21 (by decide) ej_21 dX9_falseOnes_102 ?_
    refine g_isub dX9_falseOnes_103 ?_
    obtain ⟨hd_22, h⟩ := h
    refine g_mmax hd_22 mk_X9_250 (by first | exact Nat.le_of_ble_eq_true rfl | decide) dX9_falseOnes_104 ?_
    refine g_imul dX9_falseOnes_107 ?_
    refine g_iadd dX9_falseOnes_108 ?_
    refine g_istore dX9_falseOnes_109 (by decide) (fun x5_23 ex5_23 => g_sub (lv' := [(0, .ref (D.2.2 9 r0)), (2, .int x2), (3, .ref (D.2.2 4 r3)), (4, .int x4_16), (5, .int x5_23), (6, .int x6)]) [1, 2, 3, 4, 0, 5] rfl ?_)
    have h := h x5_23 ex5_23
    refine g_iinc dX9_falseOnes_111 rfl (by decide) (fun x6_24 ex6_24 => g_sub (lv' := [(0, .ref (D.2.2 9 r0)), (2, .int x2), (3, .ref (D.2.2 4 r3)), (4, .int x4_16), (5, .int x5_23), (6, .int x6_24)]) [1, 2, 3, 4, 5, 0] rfl ?_)
    have h := h x6_24 ex6_24
    refine g_goto (tgt := 38) dX9_falseOnes_114 (by decide) ?_
    exact g_sub [0, 1, 2, 3, 4, 5] rfl h
set_option maxRecDepth 20000 in
set_option maxHeartbeats 4000000 in
theorem bl_X9_falseOnes_2 {l : Launch} {D : gD} {d : Nat} {q : Int32 → gMem → Prop} {Γ : gC} {x6 : Int32} {xs0 : Int32} {μ : gMem}  (h : (¬ x6 = 0) ∧ (q (xs0 / x6) μ)) : pt_X9_falseOnes_2 l D d q Γ x6 xs0 μ := by
  unfold pt_X9_falseOnes_2
  refine g_iload dX9_falseOnes_144 rfl ?_
  obtain ⟨nz_1, h⟩ := h
  refine g_idiv dX9_falseOnes_146 nz_1 ?_
  exact g_iret dX9_falseOnes_147 rfl rfl ⟨_, rfl, h⟩
theorem en_X9_falseOnes {l : Launch} {D : gD} {d : Nat} {q : Int32 → gMem → Prop} {r0 : Nat} {x1 : Int32} {x2 : Int32} {μ : gMem} (h : ∀ Γ : gC, pt_X9_falseOnes_0 l D d q Γ r0 x1 x2 μ) : Ctr l D d yX9_falseOnes cX9_falseOnes 7 (some .int) [.ref (D.2.2 9 r0), .int x1, .int x2] μ (pI q) :=
  Ctr_of rfl (by decide) (Nat.le_of_ble_eq_true rfl) (fun Γ => g_sub [0, 1, 2] rfl (h Γ))
def pt_X9_habit_0 (l : Launch) (D : gD) (d : Nat) (q : Int32 → gMem → Prop) (Γ : gC) (r0 : Nat) (x1 : Int32) (μ : gMem) : Prop := G l D RX9 cX9_habit 4 (some .int) d (pI q) Γ 0 [(0, .ref (D.2.2 9 r0)), (1, .int x1)] [] μ
def pt_X9_habit_1 (l : Launch) (D : gD) (d : Nat) (q : Int32 → gMem → Prop) (Γ : gC) (r0 : Nat) (r2 : Nat) (x3 : Int32) (μ : gMem) : Prop := G l D RX9 cX9_habit 4 (some .int) d (pI q) Γ 18 [(0, .ref (D.2.2 9 r0)), (2, .ref (D.2.2 4 r2)), (3, .int x3)] [] μ
set_option maxRecDepth 20000 in
set_option maxHeartbeats 4000000 in
theorem bl_X9_habit_0 {l : Launch} {D : gD} {d : Nat} {q : Int32 → gMem → Prop} {Γ : gC} {r0 : Nat} {x1 : Int32} {μ : gMem} (hr0 : r0 < 1) (h : (1 < d) ∧ (μ.2.2 0 < 2) ∧ (((¬ (iw x1 (0 : Int32) (μ.1 7 (μ.2.2 0) 0 - (1 : Int32))) = 0) → ∃ (d_7 : Nat) (q_8 : Nat → gMem → Prop), d_7 < d ∧ Ctr l D d_7 yX9_lookAhead cX9_lookAhead 2 (some (.object "WristGoal$Person")) [.ref (D.2.2 9 r0), .int x1] μ (pR D 4 q_8) ∧ ∀ (v_12 : Nat) (μ_11 : gMem), v_12 < 15 → q_8 v_12 μ_11 → ∀ x3_14 : Int32, x3_14 = (0 : Int32) → pt_X9_habit_1 l D d q Γ r0 v_12 x3_14 μ_11) ∧ (((iw x1 (0 : Int32) (μ.1 7 (μ.2.2 0) 0 - (1 : Int32))) = 0) → q (-1 : Int32) μ))) : pt_X9_habit_0 l D d q Γ r0 x1 μ := by
  unfold pt_X9_habit_0
  refine g_aload_n dX9_habit_0 rfl ?_
  refine g_iload_n dX9_habit_1 rfl ?_
  obtain ⟨hd_1, hs_2, h⟩ := h
  refine g_cV ca_X9_121 ob_9 (c_X9_isMan (d := 1) (Nat.le_refl _) hr0 hs_2 ) hd_1 (by decide) hr0 rfl rfl (by first | exact Nat.le_of_ble_eq_true rfl | decide) dX9_habit_2 (kI (fun v_3 μ_4 hq_5 => ?_))
  obtain ⟨ev_3, eμ_4⟩ := hq_5
  subst ev_3
  refine g_mem eμ_4 ?_
  refine g_if_ne (tgt := 10) dX9_habit_5 (by decide) (fun c_6 => ?_) (fun c_6 => ?_)
  · have h := h.1 c_6
    refine g_aload_n dX9_habit_10 rfl ?_
    refine g_iload_n dX9_habit_11 rfl ?_
    obtain ⟨d_7, q_8, hd_9, hc_10, h⟩ := h
    refine g_cV ca_X9_243 ob_9 hc_10 hd_9 (by decide) hr0 rfl rfl (by first | exact Nat.le_of_ble_eq_true rfl | decide) dX9_habit_12 (kR (fun v_12 μ_11 hv_12 hq_13 => ?_))
    have h := h v_12 μ_11 hv_12 hq_13
    refine g_astore_n dX9_habit_15 (by decide) (g_sub (lv' := [(0, .ref (D.2.2 9 r0)), (2, .ref (D.2.2 4 v_12))]) [1, 0] rfl ?_)
    refine g_iconst (0 : Int32) dX9_habit_16 rfl ?_
    refine g_istore_n dX9_habit_17 (by decide) (fun x3_14 ex3_14 => g_sub (lv' := [(0, .ref (D.2.2 9 r0)), (2, .ref (D.2.2 4 v_12)), (3, .int x3_14)]) [1, 2, 0] rfl ?_)
    have h := h x3_14 ex3_14
    exact g_sub [0, 1, 2] rfl h
  · have h := h.2 c_6
    refine g_iconst (-1 : Int32) dX9_habit_8 rfl ?_
    exact g_iret dX9_habit_9 rfl rfl ⟨_, rfl, h⟩
set_option maxRecDepth 20000 in
set_option maxHeartbeats 4000000 in
theorem bl_X9_habit_1 {l : Launch} {D : gD} {d : Nat} {q : Int32 → gMem → Prop} {Γ : gC} {r0 : Nat} {r2 : Nat} {x3 : Int32} {μ : gMem} (hr0 : r0 < 1) (hr2 : r2 < 15) (h : (((99 : Int32) ≤ x3) → (((μ.1 4 r2 1) < (μ.1 4 r2 0)) → q (-2 : Int32) μ) ∧ ((¬ (μ.1 4 r2 1) < (μ.1 4 r2 0)) → q (99 : Int32) μ)) ∧ ((¬ (99 : Int32) ≤ x3) → (((μ.1 4 r2 1) < (μ.1 4 r2 0)) → ∃ (d_4 : Nat) (q_5 : gMem → Prop), d_4 < d ∧ Ctr l D d_4 yX9_passAsItGoes cX9_passAsItGoes 4 none [.ref (D.2.2 9 r0), .int (1 : Int32)] μ (pV q_5) ∧ ∀ (μ_8 : gMem), q_5 μ_8 → ∀ x3_11 : Int32, x3_11 = x3 + (1 : Int32) → pt_X9_habit_1 l D d q Γ r0 r2 x3_11 μ_8) ∧ ((¬ (μ.1 4 r2 1) < (μ.1 4 r2 0)) → q x3 μ))) : pt_X9_habit_1 l D d q Γ r0 r2 x3 μ := by
  unfold pt_X9_habit_1
  refine g_iload_n dX9_habit_18 rfl ?_
  refine g_bipush (99 : Int32) dX9_habit_19 rfl ?_
  refine g_icmp_ge (tgt := 48) dX9_habit_21 (by decide) (fun c_1 => ?_) (fun c_1 => ?_)
  · have h := h.1 c_1
    refine g_aload_n dX9_habit_48 rfl ?_
    refine g_gfI fi_9_141 hr2 dX9_habit_49 ?_
    refine g_aload_n dX9_habit_52 rfl ?_
    refine g_gfI fi_9_136 hr2 dX9_habit_53 ?_
    refine g_icmp_lt (tgt := 64) dX9_habit_56 (by decide) (fun c_2 => ?_) (fun c_2 => ?_)
    · have h := h.1 c_2
      refine g_bipush (-2 : Int32) dX9_habit_64 rfl ?_
      exact g_iret dX9_habit_66 rfl rfl ⟨_, rfl, h⟩
    · have h := h.2 c_2
      refine g_bipush (99 : Int32) dX9_habit_59 rfl ?_
      refine g_goto (tgt := 66) dX9_habit_61 (by decide) ?_
      exact g_iret dX9_habit_66 rfl rfl ⟨_, rfl, h⟩
  · have h := h.2 c_1
    refine g_aload_n dX9_habit_24 rfl ?_
    refine g_gfI fi_9_141 hr2 dX9_habit_25 ?_
    refine g_aload_n dX9_habit_28 rfl ?_
    refine g_gfI fi_9_136 hr2 dX9_habit_29 ?_
    refine g_icmp_lt (tgt := 37) dX9_habit_32 (by decide) (fun c_3 => ?_) (fun c_3 => ?_)
    · have h := h.1 c_3
      refine g_aload_n dX9_habit_37 rfl ?_
      refine g_iconst (1 : Int32) dX9_habit_38 rfl ?_
      obtain ⟨d_4, q_5, hd_6, hc_7, h⟩ := h
      refine g_cV ca_X9_247 ob_9 hc_7 hd_6 (by decide) hr0 rfl rfl (by first | exact Nat.le_of_ble_eq_true rfl | decide) dX9_habit_39 (kV (fun μ_8 hq_10 => ?_))
      have h := h μ_8 hq_10
      refine g_iinc dX9_habit_42 rfl (by decide) (fun x3_11 ex3_11 => g_sub (lv' := [(0, .ref (D.2.2 9 r0)), (2, .ref (D.2.2 4 r2)), (3, .int x3_11)]) [1, 2, 0] rfl ?_)
      have h := h x3_11 ex3_11
      refine g_goto (tgt := 18) dX9_habit_45 (by decide) ?_
      exact g_sub [0, 1, 2] rfl h
    · have h := h.2 c_3
      refine g_iload_n dX9_habit_35 rfl ?_
      exact g_iret dX9_habit_36 rfl rfl ⟨_, rfl, h⟩
theorem en_X9_habit {l : Launch} {D : gD} {d : Nat} {q : Int32 → gMem → Prop} {r0 : Nat} {x1 : Int32} {μ : gMem} (h : ∀ Γ : gC, pt_X9_habit_0 l D d q Γ r0 x1 μ) : Ctr l D d yX9_habit cX9_habit 4 (some .int) [.ref (D.2.2 9 r0), .int x1] μ (pI q) :=
  Ctr_of rfl (by decide) (Nat.le_of_ble_eq_true rfl) (fun Γ => g_sub [0, 1] rfl (h Γ))
def pt_X9_breaks_0 (l : Launch) (D : gD) (d : Nat) (q : Int32 → gMem → Prop) (Γ : gC) (r0 : Nat) (x1 : Int32) (x2 : Int32) (μ : gMem) : Prop := G l D RX9 cX9_breaks 5 (some .int) d (pI q) Γ 0 [(0, .ref (D.2.2 9 r0)), (1, .int x1), (2, .int x2)] [] μ
set_option maxRecDepth 20000 in
set_option maxHeartbeats 4000000 in
theorem bl_X9_breaks_0 {l : Launch} {D : gD} {d : Nat} {q : Int32 → gMem → Prop} {Γ : gC} {r0 : Nat} {x1 : Int32} {x2 : Int32} {μ : gMem} (hr0 : r0 < 1) (h : (1 < d) ∧ (μ.2.2 0 < 2) ∧ ((((iw x1 (0 : Int32) (μ.1 7 (μ.2.2 0) 0 - (1 : Int32))) = 0) → q (-1 : Int32) μ) ∧ ((¬ (iw x1 (0 : Int32) (μ.1 7 (μ.2.2 0) 0 - (1 : Int32))) = 0) → (0 < d) ∧ (((¬ (iw x2 (1 : Int32) (60 : Int32)) = 0) → ∃ (d_12 : Nat) (q_13 : Nat → gMem → Prop), d_12 < d ∧ Ctr l D d_12 yX9_lookAhead cX9_lookAhead 2 (some (.object "WristGoal$Person")) [.ref (D.2.2 9 r0), .int x1] μ (pR D 4 q_13) ∧ ∀ (v_17 : Nat) (μ_16 : gMem), v_17 < 15 → q_13 v_17 μ_16 → ∃ (d_19 : Nat) (q_20 : gMem → Prop), d_19 < d ∧ Ctr l D d_19 yX9_passAsItGoes cX9_passAsItGoes 4 none [.ref (D.2.2 9 r0), .int x2] μ_16 (pV q_20) ∧ ∀ (μ_23 : gMem), q_20 μ_23 → ∀ x4_26 : Int32, x4_26 = μ_23.1 4 v_17 5 → ∃ (d_27 : Nat) (q_28 : Nat → gMem → Prop), d_27 < d ∧ Ctr l D d_27 yX9_lookAhead cX9_lookAhead 2 (some (.object "WristGoal$Person")) [.ref (D.2.2 9 r0), .int x1] μ_23 (pR D 4 q_28) ∧ ∀ (v_32 : Nat) (μ_31 : gMem), v_32 < 15 → q_28 v_32 μ_31 → ∀ μ_34 : gMem, μ_34 = gsI μ_31 4 v_17 10 (0 : Int32) → ∃ (d_35 : Nat) (q_36 : gMem → Prop), d_35 < d ∧ Ctr l D d_35 yX9_passAsItGoes cX9_passAsItGoes 4 none [.ref (D.2.2 9 r0), .int (1 : Int32)] μ_34 (pV q_36) ∧ ∀ (μ_39 : gMem), q_36 μ_39 → ∃ j_42 : Nat, j_42 < 5 ∧ x1 = nI j_42 ∧ ((μ_39.1 4 (5 * 0 + j_42) 10 = 0 ∨ μ_39.1 4 (5 * 0 + j_42) 10 = 1) ∧ (∀ μ_44 : gMem, μ_44 = gsI μ_39 4 v_17 10 (μ_39.1 4 (5 * 0 + j_42) 10) → ∃ (d_46 : Nat) (q_47 : gMem → Prop), d_46 < d ∧ Ctr l D d_46 yX9_passAsItGoes cX9_passAsItGoes 4 none [.ref (D.2.2 9 r0), .int (x2 - (1 : Int32))] μ_44 (pV q_47) ∧ ∀ (μ_50 : gMem), q_47 μ_50 → (0 < d) ∧ (q (imax (0 : Int32) (x4_26 - (μ_50.1 4 v_17 5))) μ_50)))) ∧ (((iw x2 (1 : Int32) (60 : Int32)) = 0) → q (-1 : Int32) μ))))) : pt_X9_breaks_0 l D d q Γ r0 x1 x2 μ := by
  unfold pt_X9_breaks_0
  refine g_aload_n dX9_breaks_0 rfl ?_
  refine g_iload_n dX9_breaks_1 rfl ?_
  obtain ⟨hd_1, hs_2, h⟩ := h
  refine g_cV ca_X9_121 ob_9 (c_X9_isMan (d := 1) (Nat.le_refl _) hr0 hs_2 ) hd_1 (by decide) hr0 rfl rfl (by first | exact Nat.le_of_ble_eq_true rfl | decide) dX9_breaks_2 (kI (fun v_3 μ_4 hq_5 => ?_))
  obtain ⟨ev_3, eμ_4⟩ := hq_5
  subst ev_3
  refine g_mem eμ_4 ?_
  refine g_if_eq (tgt := 18) dX9_breaks_5 (by decide) (fun c_6 => ?_) (fun c_6 => ?_)
  · have h := h.1 c_6
    refine g_iconst (-1 : Int32) dX9_breaks_18 rfl ?_
    exact g_iret dX9_breaks_19 rfl rfl ⟨_, rfl, h⟩
  · have h := h.2 c_6
    refine g_iload_n dX9_breaks_8 rfl ?_
    refine g_iconst (1 : Int32) dX9_breaks_9 rfl ?_
    refine g_bipush (60 : Int32) dX9_breaks_10 rfl ?_
    obtain ⟨hd_7, h⟩ := h
    refine g_callS ca_X9_194 (c_X9_isWithin (d := 0) (Nat.le_refl _) ) hd_7 (by decide) rfl rfl (by first | exact Nat.le_of_ble_eq_true rfl | decide) dX9_breaks_12 (kI (fun v_8 μ_9 hq_10 => ?_))
    obtain ⟨ev_8, eμ_9⟩ := hq_10
    subst ev_8
    refine g_mem eμ_9 ?_
    refine g_if_ne (tgt := 20) dX9_breaks_15 (by decide) (fun c_11 => ?_) (fun c_11 => ?_)
    · have h := h.1 c_11
      refine g_aload_n dX9_breaks_20 rfl ?_
      refine g_iload_n dX9_breaks_21 rfl ?_
      obtain ⟨d_12, q_13, hd_14, hc_15, h⟩ := h
      refine g_cV ca_X9_243 ob_9 hc_15 hd_14 (by decide) hr0 rfl rfl (by first | exact Nat.le_of_ble_eq_true rfl | decide) dX9_breaks_22 (kR (fun v_17 μ_16 hv_17 hq_18 => ?_))
      have h := h v_17 μ_16 hv_17 hq_18
      refine g_astore_n dX9_breaks_25 (by decide) (g_sub (lv' := [(0, .ref (D.2.2 9 r0)), (1, .int x1), (2, .int x2), (3, .ref (D.2.2 4 v_17))]) [1, 2, 3, 0] rfl ?_)
      refine g_aload_n dX9_breaks_26 rfl ?_
      refine g_iload_n dX9_breaks_27 rfl ?_
      obtain ⟨d_19, q_20, hd_21, hc_22, h⟩ := h
      refine g_cV ca_X9_247 ob_9 hc_22 hd_21 (by decide) hr0 rfl rfl (by first | exact Nat.le_of_ble_eq_true rfl | decide) dX9_breaks_28 (kV (fun μ_23 hq_25 => ?_))
      have h := h μ_23 hq_25
      refine g_aload_n dX9_breaks_31 rfl ?_
      refine g_gfI fi_9_156 hv_17 dX9_breaks_32 ?_
      refine g_istore dX9_breaks_35 (by decide) (fun x4_26 ex4_26 => g_sub (lv' := [(0, .ref (D.2.2 9 r0)), (1, .int x1), (2, .int x2), (3, .ref (D.2.2 4 v_17)), (4, .int x4_26)]) [1, 2, 3, 4, 0] rfl ?_)
      have h := h x4_26 ex4_26
      refine g_aload_n dX9_breaks_37 rfl ?_
      refine g_iload_n dX9_breaks_38 rfl ?_
      obtain ⟨d_27, q_28, hd_29, hc_30, h⟩ := h
      refine g_cV ca_X9_243 ob_9 hc_30 hd_29 (by decide) hr0 rfl rfl (by first | exact Nat.le_of_ble_eq_true rfl | decide) dX9_breaks_39 (kR (fun v_32 μ_31 hv_32 hq_33 => ?_))
      have h := h v_32 μ_31 hv_32 hq_33
      refine g_pop dX9_breaks_42 rfl ?_
      refine g_aload_n dX9_breaks_43 rfl ?_
      refine g_iconst (0 : Int32) dX9_breaks_44 rfl ?_
      refine g_pfI fi_9_167 hv_17 rfl rfl dX9_breaks_45 ?_
      obtain ⟨μ_34, eμ_34⟩ : ∃ z : gMem, z = gsI μ_31 4 v_17 10 (0 : Int32) := ⟨_, rfl⟩
      have h := h μ_34 eμ_34
      refine g_mem eμ_34.symm ?_
      refine g_aload_n dX9_breaks_48 rfl ?_
      refine g_iconst (1 : Int32) dX9_breaks_49 rfl ?_
      obtain ⟨d_35, q_36, hd_37, hc_38, h⟩ := h
      refine g_cV ca_X9_247 ob_9 hc_38 hd_37 (by decide) hr0 rfl rfl (by first | exact Nat.le_of_ble_eq_true rfl | decide) dX9_breaks_50 (kV (fun μ_39 hq_41 => ?_))
      have h := h μ_39 hq_41
      refine g_aload_n dX9_breaks_53 rfl ?_
      refine g_aload_n dX9_breaks_54 rfl ?_
      refine g_gfR fl_9_38 rfl hr0 dX9_breaks_55 ?_
      refine g_gfR fl_9_132 rfl (by decide) dX9_breaks_58 ?_
      refine g_iload_n dX9_breaks_61 rfl ?_
      obtain ⟨j_42, hj_42, ej_42, h⟩ := h
      refine g_aald j_42 (by decide) hj_42 ej_42 dX9_breaks_62 ?_
      have hp_43 : 5 * 0 + j_42 < 15 := by have : 0 < 3 := (by decide); omega
      refine g_gfI fi_9_167 hp_43 dX9_breaks_63 ?_
      obtain ⟨hz_45, h⟩ := h
      refine g_pfI fi_9_167 hv_17 (nar_z hz_45).1 (nar_z hz_45).2 dX9_breaks_66 ?_
      obtain ⟨μ_44, eμ_44⟩ : ∃ z : gMem, z = gsI μ_39 4 v_17 10 (μ_39.1 4 (5 * 0 + j_42) 10) := ⟨_, rfl⟩
      have h := h μ_44 eμ_44
      refine g_mem eμ_44.symm ?_
      refine g_aload_n dX9_breaks_69 rfl ?_
      refine g_iload_n dX9_breaks_70 rfl ?_
      refine g_iconst (1 : Int32) dX9_breaks_71 rfl ?_
      refine g_isub dX9_breaks_72 ?_
      obtain ⟨d_46, q_47, hd_48, hc_49, h⟩ := h
      refine g_cV ca_X9_247 ob_9 hc_49 hd_48 (by decide) hr0 rfl rfl (by first | exact Nat.le_of_ble_eq_true rfl | decide) dX9_breaks_73 (kV (fun μ_50 hq_52 => ?_))
      have h := h μ_50 hq_52
      refine g_iconst (0 : Int32) dX9_breaks_76 rfl ?_
      refine g_iload dX9_breaks_77 rfl ?_
      refine g_aload_n dX9_breaks_79 rfl ?_
      refine g_gfI fi_9_156 hv_17 dX9_breaks_80 ?_
      refine g_isub dX9_breaks_83 ?_
      obtain ⟨hd_53, h⟩ := h
      refine g_mmax hd_53 mk_X9_250 (by first | exact Nat.le_of_ble_eq_true rfl | decide) dX9_breaks_84 ?_
      exact g_iret dX9_breaks_87 rfl rfl ⟨_, rfl, h⟩
    · have h := h.2 c_11
      refine g_iconst (-1 : Int32) dX9_breaks_18 rfl ?_
      exact g_iret dX9_breaks_19 rfl rfl ⟨_, rfl, h⟩
theorem en_X9_breaks {l : Launch} {D : gD} {d : Nat} {q : Int32 → gMem → Prop} {r0 : Nat} {x1 : Int32} {x2 : Int32} {μ : gMem} (h : ∀ Γ : gC, pt_X9_breaks_0 l D d q Γ r0 x1 x2 μ) : Ctr l D d yX9_breaks cX9_breaks 5 (some .int) [.ref (D.2.2 9 r0), .int x1, .int x2] μ (pI q) :=
  Ctr_of rfl (by decide) (Nat.le_of_ble_eq_true rfl) (fun Γ => g_sub [0, 1, 2] rfl (h Γ))
def pt_X9_note_0 (l : Launch) (D : gD) (d : Nat) (q : Int32 → gMem → Prop) (Γ : gC) (r0 : Nat) (x1 : Int32) (x2 : Int32) (x3 : Int32) (x4 : Int32) (μ : gMem) : Prop := G l D RX9 cX9_note 5 (some .int) d (pI q) Γ 0 [(0, .ref (D.2.2 9 r0)), (1, .int x1), (2, .int x2), (3, .int x3), (4, .int x4)] [] μ
set_option maxRecDepth 20000 in
set_option maxHeartbeats 4000000 in
theorem bl_X9_note_0 {l : Launch} {D : gD} {d : Nat} {q : Int32 → gMem → Prop} {Γ : gC} {r0 : Nat} {x1 : Int32} {x2 : Int32} {x3 : Int32} {x4 : Int32} {μ : gMem} (hr0 : r0 < 1) (h : (0 < d) ∧ ((((iw x1 (1 : Int32) (40 : Int32)) = 0) → q (-1 : Int32) μ) ∧ ((¬ (iw x1 (1 : Int32) (40 : Int32)) = 0) → (1 < d) ∧ (μ.2.2 0 < 2) ∧ ((((iw x2 (0 : Int32) (μ.1 7 (μ.2.2 0) 0 - (1 : Int32))) = 0) → q (-1 : Int32) μ) ∧ ((¬ (iw x2 (0 : Int32) (μ.1 7 (μ.2.2 0) 0 - (1 : Int32))) = 0) → (0 < d) ∧ (((¬ (iw x3 (0 : Int32) (99999 : Int32)) = 0) → ∃ (d_17 : Nat) (q_18 : Int32 → gMem → Prop), d_17 < d ∧ Ctr l D d_17 yX3_add cX3_add 5 (some .int) [.ref (D.2.2 3 0), .int x1, .int x2, .int x3, .int x4] μ (pI q_18) ∧ ∀ (v_22 : Int32) (μ_21 : gMem), q_18 v_22 μ_21 → q v_22 μ_21) ∧ (((iw x3 (0 : Int32) (99999 : Int32)) = 0) → q (-1 : Int32) μ))))))) : pt_X9_note_0 l D d q Γ r0 x1 x2 x3 x4 μ := by
  unfold pt_X9_note_0
  refine g_iload_n dX9_note_0 rfl ?_
  refine g_iconst (1 : Int32) dX9_note_1 rfl ?_
  refine g_bipush (40 : Int32) dX9_note_2 rfl ?_
  obtain ⟨hd_1, h⟩ := h
  refine g_callS ca_X9_194 (c_X9_isWithin (d := 0) (Nat.le_refl _) ) hd_1 (by decide) rfl rfl (by first | exact Nat.le_of_ble_eq_true rfl | decide) dX9_note_4 (kI (fun v_2 μ_3 hq_4 => ?_))
  obtain ⟨ev_2, eμ_3⟩ := hq_4
  subst ev_2
  refine g_mem eμ_3 ?_
  refine g_if_eq (tgt := 29) dX9_note_7 (by decide) (fun c_5 => ?_) (fun c_5 => ?_)
  · have h := h.1 c_5
    refine g_iconst (-1 : Int32) dX9_note_29 rfl ?_
    exact g_iret dX9_note_30 rfl rfl ⟨_, rfl, h⟩
  · have h := h.2 c_5
    refine g_aload_n dX9_note_10 rfl ?_
    refine g_iload_n dX9_note_11 rfl ?_
    obtain ⟨hd_6, hs_7, h⟩ := h
    refine g_cV ca_X9_121 ob_9 (c_X9_isMan (d := 1) (Nat.le_refl _) hr0 hs_7 ) hd_6 (by decide) hr0 rfl rfl (by first | exact Nat.le_of_ble_eq_true rfl | decide) dX9_note_12 (kI (fun v_8 μ_9 hq_10 => ?_))
    obtain ⟨ev_8, eμ_9⟩ := hq_10
    subst ev_8
    refine g_mem eμ_9 ?_
    refine g_if_eq (tgt := 29) dX9_note_15 (by decide) (fun c_11 => ?_) (fun c_11 => ?_)
    · have h := h.1 c_11
      refine g_iconst (-1 : Int32) dX9_note_29 rfl ?_
      exact g_iret dX9_note_30 rfl rfl ⟨_, rfl, h⟩
    · have h := h.2 c_11
      refine g_iload_n dX9_note_18 rfl ?_
      refine g_iconst (0 : Int32) dX9_note_19 rfl ?_
      refine g_ldcw kc_X9_293 dX9_note_20 ?_
      obtain ⟨hd_12, h⟩ := h
      refine g_callS ca_X9_194 (c_X9_isWithin (d := 0) (Nat.le_refl _) ) hd_12 (by decide) rfl rfl (by first | exact Nat.le_of_ble_eq_true rfl | decide) dX9_note_23 (kI (fun v_13 μ_14 hq_15 => ?_))
      obtain ⟨ev_13, eμ_14⟩ := hq_15
      subst ev_13
      refine g_mem eμ_14 ?_
      refine g_if_ne (tgt := 31) dX9_note_26 (by decide) (fun c_16 => ?_) (fun c_16 => ?_)
      · have h := h.1 c_16
        refine g_aload_n dX9_note_31 rfl ?_
        refine g_gfR fl_9_51 rfl hr0 dX9_note_32 ?_
        refine g_iload_n dX9_note_35 rfl ?_
        refine g_iload_n dX9_note_36 rfl ?_
        refine g_iload_n dX9_note_37 rfl ?_
        refine g_iload dX9_note_38 rfl ?_
        obtain ⟨d_17, q_18, hd_19, hc_20, h⟩ := h
        refine g_cV ca_X9_294 ob_3 hc_20 hd_19 (by decide) (by decide) rfl rfl (by first | exact Nat.le_of_ble_eq_true rfl | decide) dX9_note_40 (kI (fun v_22 μ_21 hq_23 => ?_))
        have h := h v_22 μ_21 hq_23
        exact g_iret dX9_note_43 rfl rfl ⟨_, rfl, h⟩
      · have h := h.2 c_16
        refine g_iconst (-1 : Int32) dX9_note_29 rfl ?_
        exact g_iret dX9_note_30 rfl rfl ⟨_, rfl, h⟩
theorem en_X9_note {l : Launch} {D : gD} {d : Nat} {q : Int32 → gMem → Prop} {r0 : Nat} {x1 : Int32} {x2 : Int32} {x3 : Int32} {x4 : Int32} {μ : gMem} (h : ∀ Γ : gC, pt_X9_note_0 l D d q Γ r0 x1 x2 x3 x4 μ) : Ctr l D d yX9_note cX9_note 5 (some .int) [.ref (D.2.2 9 r0), .int x1, .int x2, .int x3, .int x4] μ (pI q) :=
  Ctr_of rfl (by decide) (Nat.le_of_ble_eq_true rfl) (fun Γ => g_sub [0, 1, 2, 3, 4] rfl (h Γ))
def pt_X9_out_0 (l : Launch) (D : gD) (d : Nat) (q : Int32 → gMem → Prop) (Γ : gC) (r0 : Nat) (x1 : Int32) (μ : gMem) : Prop := G l D RX9 cX9_out 2 (some .int) d (pI q) Γ 0 [(0, .ref (D.2.2 9 r0)), (1, .int x1)] [] μ
set_option maxRecDepth 20000 in
set_option maxHeartbeats 4000000 in
theorem bl_X9_out_0 {l : Launch} {D : gD} {d : Nat} {q : Int32 → gMem → Prop} {Γ : gC} {r0 : Nat} {x1 : Int32} {μ : gMem} (hr0 : r0 < 1) (h : (0 < d) ∧ ((((iw x1 (0 : Int32) ((μ.1 3 0 6) - (1 : Int32))) = 0) → q (-1 : Int32) μ) ∧ ((¬ (iw x1 (0 : Int32) ((μ.1 3 0 6) - (1 : Int32))) = 0) → ∃ (d_6 : Nat) (q_7 : Int32 → gMem → Prop), d_6 < d ∧ Ctr l D d_6 yX3_addStrike cX3_addStrike 3 (some .int) [.ref (D.2.2 3 0), .int x1] μ (pI q_7) ∧ ∀ (v_11 : Int32) (μ_10 : gMem), q_7 v_11 μ_10 → q v_11 μ_10))) : pt_X9_out_0 l D d q Γ r0 x1 μ := by
  unfold pt_X9_out_0
  refine g_iload_n dX9_out_0 rfl ?_
  refine g_iconst (0 : Int32) dX9_out_1 rfl ?_
  refine g_aload_n dX9_out_2 rfl ?_
  refine g_gfR fl_9_51 rfl hr0 dX9_out_3 ?_
  refine g_gfI fi_9_297 (by decide) dX9_out_6 ?_
  refine g_iconst (1 : Int32) dX9_out_9 rfl ?_
  refine g_isub dX9_out_10 ?_
  obtain ⟨hd_1, h⟩ := h
  refine g_callS ca_X9_194 (c_X9_isWithin (d := 0) (Nat.le_refl _) ) hd_1 (by decide) rfl rfl (by first | exact Nat.le_of_ble_eq_true rfl | decide) dX9_out_11 (kI (fun v_2 μ_3 hq_4 => ?_))
  obtain ⟨ev_2, eμ_3⟩ := hq_4
  subst ev_2
  refine g_mem eμ_3 ?_
  refine g_if_eq (tgt := 28) dX9_out_14 (by decide) (fun c_5 => ?_) (fun c_5 => ?_)
  · have h := h.1 c_5
    refine g_iconst (-1 : Int32) dX9_out_28 rfl ?_
    exact g_iret dX9_out_29 rfl rfl ⟨_, rfl, h⟩
  · have h := h.2 c_5
    refine g_aload_n dX9_out_17 rfl ?_
    refine g_gfR fl_9_51 rfl hr0 dX9_out_18 ?_
    refine g_iload_n dX9_out_21 rfl ?_
    obtain ⟨d_6, q_7, hd_8, hc_9, h⟩ := h
    refine g_cV ca_X9_298 ob_3 hc_9 hd_8 (by decide) (by decide) rfl rfl (by first | exact Nat.le_of_ble_eq_true rfl | decide) dX9_out_22 (kI (fun v_11 μ_10 hq_12 => ?_))
    have h := h v_11 μ_10 hq_12
    refine g_goto (tgt := 29) dX9_out_25 (by decide) ?_
    exact g_iret dX9_out_29 rfl rfl ⟨_, rfl, h⟩
theorem en_X9_out {l : Launch} {D : gD} {d : Nat} {q : Int32 → gMem → Prop} {r0 : Nat} {x1 : Int32} {μ : gMem} (h : ∀ Γ : gC, pt_X9_out_0 l D d q Γ r0 x1 μ) : Ctr l D d yX9_out cX9_out 2 (some .int) [.ref (D.2.2 9 r0), .int x1] μ (pI q) :=
  Ctr_of rfl (by decide) (Nat.le_of_ble_eq_true rfl) (fun Γ => g_sub [0, 1] rfl (h Γ))
def pt_X9_known_0 (l : Launch) (D : gD) (d : Nat) (q : Int32 → gMem → Prop) (Γ : gC) (r0 : Nat) (x1 : Int32) (μ : gMem) : Prop := G l D RX9 cX9_known 2 (some .boolean) d (pI q) Γ 0 [(0, .ref (D.2.2 9 r0)), (1, .int x1)] [] μ
set_option maxRecDepth 20000 in
set_option maxHeartbeats 4000000 in
theorem bl_X9_known_0 {l : Launch} {D : gD} {d : Nat} {q : Int32 → gMem → Prop} {Γ : gC} {r0 : Nat} {x1 : Int32} {μ : gMem} (hr0 : r0 < 1) (h : (0 < d) ∧ (((¬ (iw x1 (-1 : Int32) (μ.1 3 0 6)) = 0) → ∀ μ_6 : gMem, μ_6 = gsI μ 3 0 7 x1 → q (1 : Int32) μ_6) ∧ (((iw x1 (-1 : Int32) (μ.1 3 0 6)) = 0) → q (0 : Int32) μ))) : pt_X9_known_0 l D d q Γ r0 x1 μ := by
  unfold pt_X9_known_0
  refine g_iload_n dX9_known_0 rfl ?_
  refine g_iconst (-1 : Int32) dX9_known_1 rfl ?_
  refine g_aload_n dX9_known_2 rfl ?_
  refine g_gfR fl_9_51 rfl hr0 dX9_known_3 ?_
  refine g_gfI fi_9_297 (by decide) dX9_known_6 ?_
  obtain ⟨hd_1, h⟩ := h
  refine g_callS ca_X9_194 (c_X9_isWithin (d := 0) (Nat.le_refl _) ) hd_1 (by decide) rfl rfl (by first | exact Nat.le_of_ble_eq_true rfl | decide) dX9_known_9 (kI (fun v_2 μ_3 hq_4 => ?_))
  obtain ⟨ev_2, eμ_3⟩ := hq_4
  subst ev_2
  refine g_mem eμ_3 ?_
  refine g_if_ne (tgt := 17) dX9_known_12 (by decide) (fun c_5 => ?_) (fun c_5 => ?_)
  · have h := h.1 c_5
    refine g_aload_n dX9_known_17 rfl ?_
    refine g_gfR fl_9_51 rfl hr0 dX9_known_18 ?_
    refine g_iload_n dX9_known_21 rfl ?_
    refine g_pfI fi_9_301 (by decide) rfl rfl dX9_known_22 ?_
    obtain ⟨μ_6, eμ_6⟩ : ∃ z : gMem, z = gsI μ 3 0 7 x1 := ⟨_, rfl⟩
    have h := h μ_6 eμ_6
    refine g_mem eμ_6.symm ?_
    refine g_iconst (1 : Int32) dX9_known_25 rfl ?_
    exact g_iret dX9_known_26 rfl rfl ⟨_, rfl, h⟩
  · have h := h.2 c_5
    refine g_iconst (0 : Int32) dX9_known_15 rfl ?_
    exact g_iret dX9_known_16 rfl rfl ⟨_, rfl, h⟩
theorem en_X9_known {l : Launch} {D : gD} {d : Nat} {q : Int32 → gMem → Prop} {r0 : Nat} {x1 : Int32} {μ : gMem} (h : ∀ Γ : gC, pt_X9_known_0 l D d q Γ r0 x1 μ) : Ctr l D d yX9_known cX9_known 2 (some .boolean) [.ref (D.2.2 9 r0), .int x1] μ (pI q) :=
  Ctr_of rfl (by decide) (Nat.le_of_ble_eq_true rfl) (fun Γ => g_sub [0, 1] rfl (h Γ))
def pt_X9_fits_0 (l : Launch) (D : gD) (d : Nat) (q : Int32 → gMem → Prop) (Γ : gC) (r0 : Nat) (x1 : Int32) (x2 : Int32) (μ : gMem) : Prop := G l D RX9 cX9_fits 5 (some .int) d (pI q) Γ 0 [(0, .ref (D.2.2 9 r0)), (1, .int x1), (2, .int x2)] [] μ
def pt_X9_fits_1 (l : Launch) (D : gD) (d : Nat) (q : Int32 → gMem → Prop) (Γ : gC) (r0 : Nat) (x1 : Int32) (x2 : Int32) (x3 : Int32) (x4 : Int32) (μ : gMem) : Prop := G l D RX9 cX9_fits 5 (some .int) d (pI q) Γ 30 [(0, .ref (D.2.2 9 r0)), (1, .int x1), (2, .int x2), (3, .int x3), (4, .int x4)] [] μ
def pt_X9_fits_2 (l : Launch) (D : gD) (d : Nat) (q : Int32 → gMem → Prop) (Γ : gC) (r0 : Nat) (x1 : Int32) (x2 : Int32) (x3 : Int32) (x4 : Int32) (μ : gMem) : Prop := G l D RX9 cX9_fits 5 (some .int) d (pI q) Γ 55 [(0, .ref (D.2.2 9 r0)), (1, .int x1), (2, .int x2), (3, .int x3), (4, .int x4)] [] μ
set_option maxRecDepth 20000 in
set_option maxHeartbeats 4000000 in
theorem bl_X9_fits_0 {l : Launch} {D : gD} {d : Nat} {q : Int32 → gMem → Prop} {Γ : gC} {r0 : Nat} {x1 : Int32} {x2 : Int32} {μ : gMem} (hr0 : r0 < 1) (h : (1 < d) ∧ (μ.2.2 0 < 2) ∧ ((((iw x1 (0 : Int32) (μ.1 7 (μ.2.2 0) 0 - (1 : Int32))) = 0) → q (-1 : Int32) μ) ∧ ((¬ (iw x1 (0 : Int32) (μ.1 7 (μ.2.2 0) 0 - (1 : Int32))) = 0) → (1 < d) ∧ (μ.2.2 0 < 2) ∧ (((¬ (iw x2 (0 : Int32) (μ.1 7 (μ.2.2 0) 5 - (1 : Int32))) = 0) → ∃ (d_13 : Nat) (q_14 : gMem → Prop), d_13 < d ∧ Ctr l D d_13 yX3_findStruck cX3_findStruck 2 none [.ref (D.2.2 3 0)] μ (pV q_14) ∧ ∀ (μ_17 : gMem), q_14 μ_17 → ∀ x3_20 : Int32, x3_20 = (0 : Int32) → ∀ x4_21 : Int32, x4_21 = (0 : Int32) → pt_X9_fits_1 l D d q Γ r0 x1 x2 x3_20 x4_21 μ_17) ∧ (((iw x2 (0 : Int32) (μ.1 7 (μ.2.2 0) 5 - (1 : Int32))) = 0) → q (-1 : Int32) μ))))) : pt_X9_fits_0 l D d q Γ r0 x1 x2 μ := by
  unfold pt_X9_fits_0
  refine g_aload_n dX9_fits_0 rfl ?_
  refine g_iload_n dX9_fits_1 rfl ?_
  obtain ⟨hd_1, hs_2, h⟩ := h
  refine g_cV ca_X9_121 ob_9 (c_X9_isMan (d := 1) (Nat.le_refl _) hr0 hs_2 ) hd_1 (by decide) hr0 rfl rfl (by first | exact Nat.le_of_ble_eq_true rfl | decide) dX9_fits_2 (kI (fun v_3 μ_4 hq_5 => ?_))
  obtain ⟨ev_3, eμ_4⟩ := hq_5
  subst ev_3
  refine g_mem eμ_4 ?_
  refine g_if_eq (tgt := 16) dX9_fits_5 (by decide) (fun c_6 => ?_) (fun c_6 => ?_)
  · have h := h.1 c_6
    refine g_iconst (-1 : Int32) dX9_fits_16 rfl ?_
    exact g_iret dX9_fits_17 rfl rfl ⟨_, rfl, h⟩
  · have h := h.2 c_6
    refine g_aload_n dX9_fits_8 rfl ?_
    refine g_iload_n dX9_fits_9 rfl ?_
    obtain ⟨hd_7, hs_8, h⟩ := h
    refine g_cV ca_X9_179 ob_9 (c_X9_isDeed (d := 1) (Nat.le_refl _) hr0 hs_8 ) hd_7 (by decide) hr0 rfl rfl (by first | exact Nat.le_of_ble_eq_true rfl | decide) dX9_fits_10 (kI (fun v_9 μ_10 hq_11 => ?_))
    obtain ⟨ev_9, eμ_10⟩ := hq_11
    subst ev_9
    refine g_mem eμ_10 ?_
    refine g_if_ne (tgt := 18) dX9_fits_13 (by decide) (fun c_12 => ?_) (fun c_12 => ?_)
    · have h := h.1 c_12
      refine g_aload_n dX9_fits_18 rfl ?_
      refine g_gfR fl_9_51 rfl hr0 dX9_fits_19 ?_
      obtain ⟨d_13, q_14, hd_15, hc_16, h⟩ := h
      refine g_cV ca_X9_304 ob_3 hc_16 hd_15 (by decide) (by decide) rfl rfl (by first | exact Nat.le_of_ble_eq_true rfl | decide) dX9_fits_22 (kV (fun μ_17 hq_19 => ?_))
      have h := h μ_17 hq_19
      refine g_iconst (0 : Int32) dX9_fits_25 rfl ?_
      refine g_istore_n dX9_fits_26 (by decide) (fun x3_20 ex3_20 => g_sub (lv' := [(0, .ref (D.2.2 9 r0)), (1, .int x1), (2, .int x2), (3, .int x3_20)]) [1, 2, 3, 0] rfl ?_)
      have h := h x3_20 ex3_20
      refine g_iconst (0 : Int32) dX9_fits_27 rfl ?_
      refine g_istore dX9_fits_28 (by decide) (fun x4_21 ex4_21 => g_sub (lv' := [(0, .ref (D.2.2 9 r0)), (1, .int x1), (2, .int x2), (3, .int x3_20), (4, .int x4_21)]) [1, 2, 3, 4, 0] rfl ?_)
      have h := h x4_21 ex4_21
      exact g_sub [0, 1, 2, 3, 4] rfl h
    · have h := h.2 c_12
      refine g_iconst (-1 : Int32) dX9_fits_16 rfl ?_
      exact g_iret dX9_fits_17 rfl rfl ⟨_, rfl, h⟩
set_option maxRecDepth 20000 in
set_option maxHeartbeats 4000000 in
theorem bl_X9_fits_1 {l : Launch} {D : gD} {d : Nat} {q : Int32 → gMem → Prop} {Γ : gC} {r0 : Nat} {x1 : Int32} {x2 : Int32} {x3 : Int32} {x4 : Int32} {μ : gMem} (hr0 : r0 < 1) (h : (((9 : Int32) < x4) → q x3 μ) ∧ ((¬ (9 : Int32) < x4) → ∃ (d_2 : Nat) (q_3 : Int32 → gMem → Prop), d_2 < d ∧ Ctr l D d_2 yX9_agreesWithNotes cX9_agreesWithNotes 6 (some .boolean) [.ref (D.2.2 9 r0), .int x1, .int x2, .int x4] μ (pI q_3) ∧ ∀ (v_7 : Int32) (μ_6 : gMem), q_3 v_7 μ_6 → ((v_7 = 0) → pt_X9_fits_2 l D d q Γ r0 x1 x2 x3 x4 μ_6) ∧ ((¬ v_7 = 0) → ∀ x3_10 : Int32, x3_10 = x3 ||| ((1 : Int32) <<< (x4 &&& 31)) → pt_X9_fits_2 l D d q Γ r0 x1 x2 x3_10 x4 μ_6))) : pt_X9_fits_1 l D d q Γ r0 x1 x2 x3 x4 μ := by
  unfold pt_X9_fits_1
  refine g_iload dX9_fits_30 rfl ?_
  refine g_bipush (9 : Int32) dX9_fits_32 rfl ?_
  refine g_icmp_gt (tgt := 61) dX9_fits_34 (by decide) (fun c_1 => ?_) (fun c_1 => ?_)
  · have h := h.1 c_1
    refine g_iload_n dX9_fits_61 rfl ?_
    exact g_iret dX9_fits_62 rfl rfl ⟨_, rfl, h⟩
  · have h := h.2 c_1
    refine g_aload_n dX9_fits_37 rfl ?_
    refine g_iload_n dX9_fits_38 rfl ?_
    refine g_iload_n dX9_fits_39 rfl ?_
    refine g_iload dX9_fits_40 rfl ?_
    obtain ⟨d_2, q_3, hd_4, hc_5, h⟩ := h
    refine g_cV ca_X9_307 ob_9 hc_5 hd_4 (by decide) hr0 rfl rfl (by first | exact Nat.le_of_ble_eq_true rfl | decide) dX9_fits_42 (kI (fun v_7 μ_6 hq_8 => ?_))
    have h := h v_7 μ_6 hq_8
    refine g_if_eq (tgt := 55) dX9_fits_45 (by decide) (fun c_9 => ?_) (fun c_9 => ?_)
    · have h := h.1 c_9
      exact g_sub [0, 1, 2, 3, 4] rfl h
    · have h := h.2 c_9
      refine g_iload_n dX9_fits_48 rfl ?_
      refine g_iconst (1 : Int32) dX9_fits_49 rfl ?_
      refine g_iload dX9_fits_50 rfl ?_
      refine g_ishl dX9_fits_52 ?_
      refine g_ior dX9_fits_53 ?_
      refine g_istore_n dX9_fits_54 (by decide) (fun x3_10 ex3_10 => g_sub (lv' := [(0, .ref (D.2.2 9 r0)), (1, .int x1), (2, .int x2), (3, .int x3_10), (4, .int x4)]) [1, 2, 3, 0, 4] rfl ?_)
      have h := h x3_10 ex3_10
      exact g_sub [0, 1, 2, 3, 4] rfl h
set_option maxRecDepth 20000 in
set_option maxHeartbeats 4000000 in
theorem bl_X9_fits_2 {l : Launch} {D : gD} {d : Nat} {q : Int32 → gMem → Prop} {Γ : gC} {r0 : Nat} {x1 : Int32} {x2 : Int32} {x3 : Int32} {x4 : Int32} {μ : gMem} (hr0 : r0 < 1) (h : ∀ x4_1 : Int32, x4_1 = x4 + (1 : Int32) → pt_X9_fits_1 l D d q Γ r0 x1 x2 x3 x4_1 μ) : pt_X9_fits_2 l D d q Γ r0 x1 x2 x3 x4 μ := by
  unfold pt_X9_fits_2
  refine g_iinc dX9_fits_55 rfl (by decide) (fun x4_1 ex4_1 => g_sub (lv' := [(0, .ref (D.2.2 9 r0)), (1, .int x1), (2, .int x2), (3, .int x3), (4, .int x4_1)]) [1, 2, 3, 4, 0] rfl ?_)
  have h := h x4_1 ex4_1
  refine g_goto (tgt := 30) dX9_fits_58 (by decide) ?_
  exact g_sub [0, 1, 2, 3, 4] rfl h
theorem en_X9_fits {l : Launch} {D : gD} {d : Nat} {q : Int32 → gMem → Prop} {r0 : Nat} {x1 : Int32} {x2 : Int32} {μ : gMem} (h : ∀ Γ : gC, pt_X9_fits_0 l D d q Γ r0 x1 x2 μ) : Ctr l D d yX9_fits cX9_fits 5 (some .int) [.ref (D.2.2 9 r0), .int x1, .int x2] μ (pI q) :=
  Ctr_of rfl (by decide) (Nat.le_of_ble_eq_true rfl) (fun Γ => g_sub [0, 1, 2] rfl (h Γ))
def pt_X9_chance_0 (l : Launch) (D : gD) (d : Nat) (q : Int32 → gMem → Prop) (Γ : gC) (r0 : Nat) (x1 : Int32) (x2 : Int32) (x3 : Int32) (x4 : Int32) (μ : gMem) : Prop := G l D RX9 cX9_chance 11 (some .int) d (pI q) Γ 0 [(0, .ref (D.2.2 9 r0)), (1, .int x1), (2, .int x2), (3, .int x3), (4, .int x4)] [] μ
def pt_X9_chance_1 (l : Launch) (D : gD) (d : Nat) (q : Int32 → gMem → Prop) (Γ : gC) (r0 : Nat) (x2 : Int32) (x3 : Int32) (x4 : Int32) (l5 : Int64) (x7 : Int32) (x8 : Int32) (μ : gMem) : Prop := G l D RX9 cX9_chance 11 (some .int) d (pI q) Γ 45 [(0, .ref (D.2.2 9 r0)), (2, .int x2), (3, .int x3), (4, .int x4), (5, .long l5), (7, .int x7), (8, .int x8)] [] μ
def pt_X9_chance_2 (l : Launch) (D : gD) (d : Nat) (q : Int32 → gMem → Prop) (Γ : gC) (r0 : Nat) (x2 : Int32) (x3 : Int32) (x4 : Int32) (x7 : Int32) (x8 : Int32) (r9 : Nat) (x10 : Int32) (μ : gMem) : Prop := G l D RX9 cX9_chance 11 (some .int) d (pI q) Γ 71 [(0, .ref (D.2.2 9 r0)), (2, .int x2), (3, .int x3), (4, .int x4), (7, .int x7), (8, .int x8), (9, .ref (D.2.2 4 r9)), (10, .int x10)] [] μ
def pt_X9_chance_3 (l : Launch) (D : gD) (d : Nat) (q : Int32 → gMem → Prop) (Γ : gC) (r0 : Nat) (x2 : Int32) (x3 : Int32) (x4 : Int32) (l5 : Int64) (x7 : Int32) (x8 : Int32) (μ : gMem) : Prop := G l D RX9 cX9_chance 11 (some .int) d (pI q) Γ 130 [(0, .ref (D.2.2 9 r0)), (2, .int x2), (3, .int x3), (4, .int x4), (5, .long l5), (7, .int x7), (8, .int x8)] [] μ
set_option maxRecDepth 20000 in
set_option maxHeartbeats 4000000 in
theorem bl_X9_chance_0 {l : Launch} {D : gD} {d : Nat} {q : Int32 → gMem → Prop} {Γ : gC} {r0 : Nat} {x1 : Int32} {x2 : Int32} {x3 : Int32} {x4 : Int32} {μ : gMem} (hr0 : r0 < 1) (h : ((x1 < 0) → q (-1 : Int32) μ) ∧ ((¬ x1 < 0) → (0 < d) ∧ ((((iw x2 (1 : Int32) (60 : Int32)) = 0) → q (-1 : Int32) μ) ∧ ((¬ (iw x2 (1 : Int32) (60 : Int32)) = 0) → (1 < d) ∧ (μ.2.2 0 < 2) ∧ ((((iw x3 (0 : Int32) (μ.1 7 (μ.2.2 0) 0 - (1 : Int32))) = 0) → q (-1 : Int32) μ) ∧ ((¬ (iw x3 (0 : Int32) (μ.1 7 (μ.2.2 0) 0 - (1 : Int32))) = 0) → (0 < d) ∧ (((¬ (iw x4 (0 : Int32) (99 : Int32)) = 0) → ∀ l5_18 : Int64, l5_18 = x1.toInt64 → ∀ x7_19 : Int32, x7_19 = (0 : Int32) → ∀ x8_20 : Int32, x8_20 = (0 : Int32) → pt_X9_chance_1 l D d q Γ r0 x2 x3 x4 l5_18 x7_19 x8_20 μ) ∧ (((iw x4 (0 : Int32) (99 : Int32)) = 0) → q (-1 : Int32) μ)))))))) : pt_X9_chance_0 l D d q Γ r0 x1 x2 x3 x4 μ := by
  unfold pt_X9_chance_0
  refine g_iload_n dX9_chance_0 rfl ?_
  refine g_if_lt (tgt := 33) dX9_chance_1 (by decide) (fun c_1 => ?_) (fun c_1 => ?_)
  · have h := h.1 c_1
    refine g_iconst (-1 : Int32) dX9_chance_33 rfl ?_
    exact g_iret dX9_chance_34 rfl rfl ⟨_, rfl, h⟩
  · have h := h.2 c_1
    refine g_iload_n dX9_chance_4 rfl ?_
    refine g_iconst (1 : Int32) dX9_chance_5 rfl ?_
    refine g_bipush (60 : Int32) dX9_chance_6 rfl ?_
    obtain ⟨hd_2, h⟩ := h
    refine g_callS ca_X9_194 (c_X9_isWithin (d := 0) (Nat.le_refl _) ) hd_2 (by decide) rfl rfl (by first | exact Nat.le_of_ble_eq_true rfl | decide) dX9_chance_8 (kI (fun v_3 μ_4 hq_5 => ?_))
    obtain ⟨ev_3, eμ_4⟩ := hq_5
    subst ev_3
    refine g_mem eμ_4 ?_
    refine g_if_eq (tgt := 33) dX9_chance_11 (by decide) (fun c_6 => ?_) (fun c_6 => ?_)
    · have h := h.1 c_6
      refine g_iconst (-1 : Int32) dX9_chance_33 rfl ?_
      exact g_iret dX9_chance_34 rfl rfl ⟨_, rfl, h⟩
    · have h := h.2 c_6
      refine g_aload_n dX9_chance_14 rfl ?_
      refine g_iload_n dX9_chance_15 rfl ?_
      obtain ⟨hd_7, hs_8, h⟩ := h
      refine g_cV ca_X9_121 ob_9 (c_X9_isMan (d := 1) (Nat.le_refl _) hr0 hs_8 ) hd_7 (by decide) hr0 rfl rfl (by first | exact Nat.le_of_ble_eq_true rfl | decide) dX9_chance_16 (kI (fun v_9 μ_10 hq_11 => ?_))
      obtain ⟨ev_9, eμ_10⟩ := hq_11
      subst ev_9
      refine g_mem eμ_10 ?_
      refine g_if_eq (tgt := 33) dX9_chance_19 (by decide) (fun c_12 => ?_) (fun c_12 => ?_)
      · have h := h.1 c_12
        refine g_iconst (-1 : Int32) dX9_chance_33 rfl ?_
        exact g_iret dX9_chance_34 rfl rfl ⟨_, rfl, h⟩
      · have h := h.2 c_12
        refine g_iload dX9_chance_22 rfl ?_
        refine g_iconst (0 : Int32) dX9_chance_24 rfl ?_
        refine g_bipush (99 : Int32) dX9_chance_25 rfl ?_
        obtain ⟨hd_13, h⟩ := h
        refine g_callS ca_X9_194 (c_X9_isWithin (d := 0) (Nat.le_refl _) ) hd_13 (by decide) rfl rfl (by first | exact Nat.le_of_ble_eq_true rfl | decide) dX9_chance_27 (kI (fun v_14 μ_15 hq_16 => ?_))
        obtain ⟨ev_14, eμ_15⟩ := hq_16
        subst ev_14
        refine g_mem eμ_15 ?_
        refine g_if_ne (tgt := 35) dX9_chance_30 (by decide) (fun c_17 => ?_) (fun c_17 => ?_)
        · have h := h.1 c_17
          refine g_iload_n dX9_chance_35 rfl ?_
          refine g_i2l dX9_chance_36 ?_
          refine g_lstore dX9_chance_37 (by decide) (fun l5_18 el5_18 => g_sub (lv' := [(0, .ref (D.2.2 9 r0)), (2, .int x2), (3, .int x3), (4, .int x4), (5, .long l5_18)]) [1, 3, 4, 5, 0] rfl ?_)
          have h := h l5_18 el5_18
          refine g_iconst (0 : Int32) dX9_chance_39 rfl ?_
          refine g_istore dX9_chance_40 (by decide) (fun x7_19 ex7_19 => g_sub (lv' := [(0, .ref (D.2.2 9 r0)), (2, .int x2), (3, .int x3), (4, .int x4), (5, .long l5_18), (7, .int x7_19)]) [1, 2, 3, 4, 5, 0] rfl ?_)
          have h := h x7_19 ex7_19
          refine g_iconst (0 : Int32) dX9_chance_42 rfl ?_
          refine g_istore dX9_chance_43 (by decide) (fun x8_20 ex8_20 => g_sub (lv' := [(0, .ref (D.2.2 9 r0)), (2, .int x2), (3, .int x3), (4, .int x4), (5, .long l5_18), (7, .int x7_19), (8, .int x8_20)]) [1, 2, 3, 4, 5, 6, 0] rfl ?_)
          have h := h x8_20 ex8_20
          exact g_sub [0, 1, 2, 3, 4, 5, 6] rfl h
        · have h := h.2 c_17
          refine g_iconst (-1 : Int32) dX9_chance_33 rfl ?_
          exact g_iret dX9_chance_34 rfl rfl ⟨_, rfl, h⟩
set_option maxRecDepth 20000 in
set_option maxHeartbeats 4000000 in
theorem bl_X9_chance_1 {l : Launch} {D : gD} {d : Nat} {q : Int32 → gMem → Prop} {Γ : gC} {r0 : Nat} {x2 : Int32} {x3 : Int32} {x4 : Int32} {l5 : Int64} {x7 : Int32} {x8 : Int32} {μ : gMem} (hr0 : r0 < 1) (h : (((10 : Int32) ≤ x8) → q x7 μ) ∧ ((¬ (10 : Int32) ≤ x8) → ∃ (d_2 : Nat) (q_3 : Nat → gMem → Prop), d_2 < d ∧ Ctr l D d_2 yX9_lookAhead cX9_lookAhead 2 (some (.object "WristGoal$Person")) [.ref (D.2.2 9 r0), .int x3] μ (pR D 4 q_3) ∧ ∀ (v_7 : Nat) (μ_6 : gMem), v_7 < 15 → q_3 v_7 μ_6 → ∀ μ_9 : gMem, μ_9 = gsL μ_6 8 2 3 l5 → ∀ x10_10 : Int32, x10_10 = (0 : Int32) → pt_X9_chance_2 l D d q Γ r0 x2 x3 x4 x7 x8 v_7 x10_10 μ_9)) : pt_X9_chance_1 l D d q Γ r0 x2 x3 x4 l5 x7 x8 μ := by
  unfold pt_X9_chance_1
  refine g_iload dX9_chance_45 rfl ?_
  refine g_bipush (10 : Int32) dX9_chance_47 rfl ?_
  refine g_icmp_ge (tgt := 136) dX9_chance_49 (by decide) (fun c_1 => ?_) (fun c_1 => ?_)
  · have h := h.1 c_1
    refine g_iload dX9_chance_136 rfl ?_
    exact g_iret dX9_chance_138 rfl rfl ⟨_, rfl, h⟩
  · have h := h.2 c_1
    refine g_aload_n dX9_chance_52 rfl ?_
    refine g_iload_n dX9_chance_53 rfl ?_
    obtain ⟨d_2, q_3, hd_4, hc_5, h⟩ := h
    refine g_cV ca_X9_243 ob_9 hc_5 hd_4 (by decide) hr0 rfl rfl (by first | exact Nat.le_of_ble_eq_true rfl | decide) dX9_chance_54 (kR (fun v_7 μ_6 hv_7 hq_8 => ?_))
    have h := h v_7 μ_6 hv_7 hq_8
    refine g_astore dX9_chance_57 (by decide) (g_sub (lv' := [(0, .ref (D.2.2 9 r0)), (2, .int x2), (3, .int x3), (4, .int x4), (5, .long l5), (7, .int x7), (8, .int x8), (9, .ref (D.2.2 4 v_7))]) [1, 2, 3, 4, 5, 6, 7, 0] rfl ?_)
    refine g_aload_n dX9_chance_59 rfl ?_
    refine g_gfR fl_9_45 rfl hr0 dX9_chance_60 ?_
    refine g_lload dX9_chance_63 rfl ?_
    refine g_pfJ fi_9_310 (by decide) dX9_chance_65 ?_
    obtain ⟨μ_9, eμ_9⟩ : ∃ z : gMem, z = gsL μ_6 8 2 3 l5 := ⟨_, rfl⟩
    have h := h μ_9 eμ_9
    refine g_mem eμ_9.symm ?_
    refine g_iconst (0 : Int32) dX9_chance_68 rfl ?_
    refine g_istore dX9_chance_69 (by decide) (fun x10_10 ex10_10 => g_sub (lv' := [(0, .ref (D.2.2 9 r0)), (2, .int x2), (3, .int x3), (4, .int x4), (7, .int x7), (8, .int x8), (9, .ref (D.2.2 4 v_7)), (10, .int x10_10)]) [1, 2, 3, 4, 6, 7, 8, 0] rfl ?_)
    have h := h x10_10 ex10_10
    exact g_sub [0, 1, 2, 3, 4, 5, 6, 7] rfl h
set_option maxRecDepth 20000 in
set_option maxHeartbeats 4000000 in
theorem bl_X9_chance_2 {l : Launch} {D : gD} {d : Nat} {q : Int32 → gMem → Prop} {Γ : gC} {r0 : Nat} {x2 : Int32} {x3 : Int32} {x4 : Int32} {x7 : Int32} {x8 : Int32} {r9 : Nat} {x10 : Int32} {μ : gMem} (hr0 : r0 < 1) (hr9 : r9 < 15) (h : ((x2 ≤ x10) → ∀ l5_2 : Int64, l5_2 = μ.2.1 8 2 3 → (((μ.1 4 r9 2) < x4) → pt_X9_chance_3 l D d q Γ r0 x2 x3 x4 l5_2 x7 x8 μ) ∧ ((¬ (μ.1 4 r9 2) < x4) → ∀ x7_4 : Int32, x7_4 = x7 + (1 : Int32) → pt_X9_chance_3 l D d q Γ r0 x2 x3 x4 l5_2 x7_4 x8 μ)) ∧ ((¬ x2 ≤ x10) → (μ.2.2 0 < 2) ∧ ((μ.2.2 0 < 2) ∧ (∃ (d_7 : Nat) (q_8 : Int32 → gMem → Prop), d_7 < d ∧ Ctr l D d_7 yX8_drawsWet cX8_drawsWet 2 (some .boolean) [.ref (D.2.2 8 2), .int (μ.1 7 (μ.2.2 0) 16)] μ (pI q_8) ∧ ∀ (v_12 : Int32) (μ_11 : gMem), q_8 v_12 μ_11 → ∃ (d_14 : Nat) (q_15 : gMem → Prop), d_14 < d ∧ Ctr l D d_14 yX8_passDay cX8_passDay 4 none [.ref (D.2.2 8 2), .ref (D.2.2 7 (μ.2.2 0)), .int v_12] μ_11 (pV q_15) ∧ ∀ (μ_18 : gMem), q_15 μ_18 → ∀ x10_21 : Int32, x10_21 = x10 + (1 : Int32) → pt_X9_chance_2 l D d q Γ r0 x2 x3 x4 x7 x8 r9 x10_21 μ_18)))) : pt_X9_chance_2 l D d q Γ r0 x2 x3 x4 x7 x8 r9 x10 μ := by
  unfold pt_X9_chance_2
  refine g_iload dX9_chance_71 rfl ?_
  refine g_iload_n dX9_chance_73 rfl ?_
  refine g_icmp_ge (tgt := 108) dX9_chance_74 (by decide) (fun c_1 => ?_) (fun c_1 => ?_)
  · have h := h.1 c_1
    refine g_aload_n dX9_chance_108 rfl ?_
    refine g_gfR fl_9_45 rfl hr0 dX9_chance_109 ?_
    refine g_gfJ fi_9_310 (by decide) dX9_chance_112 ?_
    refine g_lstore dX9_chance_115 (by decide) (fun l5_2 el5_2 => g_sub (lv' := [(0, .ref (D.2.2 9 r0)), (2, .int x2), (3, .int x3), (4, .int x4), (5, .long l5_2), (7, .int x7), (8, .int x8), (9, .ref (D.2.2 4 r9))]) [1, 2, 3, 4, 0, 5, 6, 7] rfl ?_)
    have h := h l5_2 el5_2
    refine g_aload dX9_chance_117 rfl ?_
    refine g_gfI fi_9_147 hr9 dX9_chance_119 ?_
    refine g_iload dX9_chance_122 rfl ?_
    refine g_icmp_lt (tgt := 130) dX9_chance_124 (by decide) (fun c_3 => ?_) (fun c_3 => ?_)
    · have h := h.1 c_3
      exact g_sub [0, 1, 2, 3, 4, 5, 6] rfl h
    · have h := h.2 c_3
      refine g_iinc dX9_chance_127 rfl (by decide) (fun x7_4 ex7_4 => g_sub (lv' := [(0, .ref (D.2.2 9 r0)), (2, .int x2), (3, .int x3), (4, .int x4), (5, .long l5_2), (7, .int x7_4), (8, .int x8)]) [1, 2, 3, 4, 5, 0, 6] rfl ?_)
      have h := h x7_4 ex7_4
      exact g_sub [0, 1, 2, 3, 4, 5, 6] rfl h
  · have h := h.2 c_1
    refine g_aload_n dX9_chance_77 rfl ?_
    refine g_gfR fl_9_45 rfl hr0 dX9_chance_78 ?_
    refine g_aload_n dX9_chance_81 rfl ?_
    obtain ⟨hR_5, h⟩ := h
    refine g_gfR fl_9_28 rfl hr0 dX9_chance_82 ?_
    refine g_aload_n dX9_chance_85 rfl ?_
    refine g_gfR fl_9_45 rfl hr0 dX9_chance_86 ?_
    refine g_aload_n dX9_chance_89 rfl ?_
    obtain ⟨hR_6, h⟩ := h
    refine g_gfR fl_9_28 rfl hr0 dX9_chance_90 ?_
    refine g_gfI fi_9_233 hR_6 dX9_chance_93 ?_
    obtain ⟨d_7, q_8, hd_9, hc_10, h⟩ := h
    refine g_cV ca_X9_236 ob_8 hc_10 hd_9 (by decide) (by decide) rfl rfl (by first | exact Nat.le_of_ble_eq_true rfl | decide) dX9_chance_96 (kI (fun v_12 μ_11 hq_13 => ?_))
    have h := h v_12 μ_11 hq_13
    obtain ⟨d_14, q_15, hd_16, hc_17, h⟩ := h
    refine g_cV ca_X9_239 ob_8 hc_17 hd_16 (by decide) (by decide) rfl rfl (by first | exact Nat.le_of_ble_eq_true rfl | decide) dX9_chance_99 (kV (fun μ_18 hq_20 => ?_))
    have h := h μ_18 hq_20
    refine g_iinc dX9_chance_102 rfl (by decide) (fun x10_21 ex10_21 => g_sub (lv' := [(0, .ref (D.2.2 9 r0)), (2, .int x2), (3, .int x3), (4, .int x4), (7, .int x7), (8, .int x8), (9, .ref (D.2.2 4 r9)), (10, .int x10_21)]) [1, 2, 3, 4, 5, 6, 7, 0] rfl ?_)
    have h := h x10_21 ex10_21
    refine g_goto (tgt := 71) dX9_chance_105 (by decide) ?_
    exact g_sub [0, 1, 2, 3, 4, 5, 6, 7] rfl h
set_option maxRecDepth 20000 in
set_option maxHeartbeats 4000000 in
theorem bl_X9_chance_3 {l : Launch} {D : gD} {d : Nat} {q : Int32 → gMem → Prop} {Γ : gC} {r0 : Nat} {x2 : Int32} {x3 : Int32} {x4 : Int32} {l5 : Int64} {x7 : Int32} {x8 : Int32} {μ : gMem} (hr0 : r0 < 1) (h : ∀ x8_1 : Int32, x8_1 = x8 + (1 : Int32) → pt_X9_chance_1 l D d q Γ r0 x2 x3 x4 l5 x7 x8_1 μ) : pt_X9_chance_3 l D d q Γ r0 x2 x3 x4 l5 x7 x8 μ := by
  unfold pt_X9_chance_3
  refine g_iinc dX9_chance_130 rfl (by decide) (fun x8_1 ex8_1 => g_sub (lv' := [(0, .ref (D.2.2 9 r0)), (2, .int x2), (3, .int x3), (4, .int x4), (5, .long l5), (7, .int x7), (8, .int x8_1)]) [1, 2, 3, 4, 5, 6, 0] rfl ?_)
  have h := h x8_1 ex8_1
  refine g_goto (tgt := 45) dX9_chance_133 (by decide) ?_
  exact g_sub [0, 1, 2, 3, 4, 5, 6] rfl h
theorem en_X9_chance {l : Launch} {D : gD} {d : Nat} {q : Int32 → gMem → Prop} {r0 : Nat} {x1 : Int32} {x2 : Int32} {x3 : Int32} {x4 : Int32} {μ : gMem} (h : ∀ Γ : gC, pt_X9_chance_0 l D d q Γ r0 x1 x2 x3 x4 μ) : Ctr l D d yX9_chance cX9_chance 11 (some .int) [.ref (D.2.2 9 r0), .int x1, .int x2, .int x3, .int x4] μ (pI q) :=
  Ctr_of rfl (by decide) (Nat.le_of_ble_eq_true rfl) (fun Γ => g_sub [0, 1, 2, 3, 4] rfl (h Γ))
def pt_X9_tried_0 (l : Launch) (D : gD) (d : Nat) (q : Int32 → gMem → Prop) (Γ : gC) (r0 : Nat) (x1 : Int32) (x2 : Int32) (x3 : Int32) (μ : gMem) : Prop := G l D RX9 cX9_tried 7 (some .int) d (pI q) Γ 0 [(0, .ref (D.2.2 9 r0)), (1, .int x1), (2, .int x2), (3, .int x3)] [] μ
def pt_X9_tried_1 (l : Launch) (D : gD) (d : Nat) (q : Int32 → gMem → Prop) (Γ : gC) (r0 : Nat) (x1 : Int32) (x2 : Int32) (x3 : Int32) (μ : gMem) : Prop := G l D RX9 cX9_tried 7 (some .int) d (pI q) Γ 41 [(0, .ref (D.2.2 9 r0)), (1, .int x1), (2, .int x2), (3, .int x3)] [] μ
def pt_X9_tried_2 (l : Launch) (D : gD) (d : Nat) (q : Int32 → gMem → Prop) (Γ : gC) (r0 : Nat) (x1 : Int32) (x2 : Int32) (x3 : Int32) (μ : gMem) : Prop := G l D RX9 cX9_tried 7 (some .int) d (pI q) Γ 61 [(0, .ref (D.2.2 9 r0)), (1, .int x1), (2, .int x2), (3, .int x3)] [] μ
def pt_X9_tried_3 (l : Launch) (D : gD) (d : Nat) (q : Int32 → gMem → Prop) (Γ : gC) (r0 : Nat) (x1 : Int32) (x2 : Int32) (x3 : Int32) (xs0 : Int32) (μ : gMem) : Prop := G l D RX9 cX9_tried 7 (some .int) d (pI q) Γ 62 [(0, .ref (D.2.2 9 r0)), (1, .int x1), (2, .int x2), (3, .int x3)] [.int xs0] μ
def pt_X9_tried_4 (l : Launch) (D : gD) (d : Nat) (q : Int32 → gMem → Prop) (Γ : gC) (r0 : Nat) (x1 : Int32) (x3 : Int32) (x4 : Int32) (μ : gMem) : Prop := G l D RX9 cX9_tried 7 (some .int) d (pI q) Γ 77 [(0, .ref (D.2.2 9 r0)), (1, .int x1), (3, .int x3), (4, .int x4)] [] μ
def pt_X9_tried_5 (l : Launch) (D : gD) (d : Nat) (q : Int32 → gMem → Prop) (Γ : gC) (r0 : Nat) (x1 : Int32) (x3 : Int32) (x4 : Int32) (rs0 : Nat) (xs1 : Int32) (μ : gMem) : Prop := G l D RX9 cX9_tried 7 (some .int) d (pI q) Γ 91 [(0, .ref (D.2.2 9 r0)), (1, .int x1), (3, .int x3), (4, .int x4)] [.int xs1, .ref (D.2.2 8 rs0)] μ
def pt_X9_tried_6 (l : Launch) (D : gD) (d : Nat) (q : Int32 → gMem → Prop) (Γ : gC) (r0 : Nat) (x1 : Int32) (x3 : Int32) (x4 : Int32) (x5 : Int32) (μ : gMem) : Prop := G l D RX9 cX9_tried 7 (some .int) d (pI q) Γ 97 [(0, .ref (D.2.2 9 r0)), (1, .int x1), (3, .int x3), (4, .int x4), (5, .int x5)] [] μ
def pt_X9_tried_7 (l : Launch) (D : gD) (d : Nat) (q : Int32 → gMem → Prop) (Γ : gC) (r0 : Nat) (x1 : Int32) (x3 : Int32) (x4 : Int32) (x5 : Int32) (r6 : Nat) (rs0 : Nat) (μ : gMem) : Prop := G l D RX9 cX9_tried 7 (some .int) d (pI q) Γ 136 [(0, .ref (D.2.2 9 r0)), (1, .int x1), (3, .int x3), (4, .int x4), (5, .int x5), (6, .ref (D.2.2 4 r6))] [.ref (D.2.2 4 rs0)] μ
def pt_X9_tried_8 (l : Launch) (D : gD) (d : Nat) (q : Int32 → gMem → Prop) (Γ : gC) (r0 : Nat) (x1 : Int32) (x3 : Int32) (x4 : Int32) (x5 : Int32) (r6 : Nat) (rs0 : Nat) (xs1 : Int32) (μ : gMem) : Prop := G l D RX9 cX9_tried 7 (some .int) d (pI q) Γ 141 [(0, .ref (D.2.2 9 r0)), (1, .int x1), (3, .int x3), (4, .int x4), (5, .int x5), (6, .ref (D.2.2 4 r6))] [.int xs1, .ref (D.2.2 4 rs0)] μ
def pt_X9_tried_9 (l : Launch) (D : gD) (d : Nat) (q : Int32 → gMem → Prop) (Γ : gC) (r0 : Nat) (x1 : Int32) (x3 : Int32) (x4 : Int32) (x5 : Int32) (μ : gMem) : Prop := G l D RX9 cX9_tried 7 (some .int) d (pI q) Γ 158 [(0, .ref (D.2.2 9 r0)), (1, .int x1), (3, .int x3), (4, .int x4), (5, .int x5)] [] μ
def pt_X9_tried_10 (l : Launch) (D : gD) (d : Nat) (q : Int32 → gMem → Prop) (Γ : gC) (r0 : Nat) (x3 : Int32) (x4 : Int32) (x5 : Int32) (μ : gMem) : Prop := G l D RX9 cX9_tried 7 (some .int) d (pI q) Γ 167 [(0, .ref (D.2.2 9 r0)), (3, .int x3), (4, .int x4), (5, .int x5)] [] μ
set_option maxRecDepth 20000 in
set_option maxHeartbeats 4000000 in
theorem bl_X9_tried_0 {l : Launch} {D : gD} {d : Nat} {q : Int32 → gMem → Prop} {Γ : gC} {r0 : Nat} {x1 : Int32} {x2 : Int32} {x3 : Int32} {μ : gMem} (hr0 : r0 < 1) (h : (0 < d) ∧ ((((iw x1 (0 : Int32) (5 : Int32)) = 0) → q (-1 : Int32) μ) ∧ ((¬ (iw x1 (0 : Int32) (5 : Int32)) = 0) → (0 < d) ∧ ((((iw x3 (0 : Int32) (60 : Int32)) = 0) → q (-1 : Int32) μ) ∧ ((¬ (iw x3 (0 : Int32) (60 : Int32)) = 0) → ((¬ x1 = (2 : Int32)) → ((x2 = 0) → pt_X9_tried_1 l D d q Γ r0 x1 x2 x3 μ) ∧ ((¬ x2 = 0) → q (-1 : Int32) μ)) ∧ ((x1 = (2 : Int32)) → (1 < d) ∧ (μ.2.2 0 < 2) ∧ ((((iw x2 (0 : Int32) (μ.1 7 (μ.2.2 0) 0 - (1 : Int32))) = 0) → q (-1 : Int32) μ) ∧ ((¬ (iw x2 (0 : Int32) (μ.1 7 (μ.2.2 0) 0 - (1 : Int32))) = 0) → pt_X9_tried_1 l D d q Γ r0 x1 x2 x3 μ)))))))) : pt_X9_tried_0 l D d q Γ r0 x1 x2 x3 μ := by
  unfold pt_X9_tried_0
  refine g_iload_n dX9_tried_0 rfl ?_
  refine g_iconst (0 : Int32) dX9_tried_1 rfl ?_
  refine g_iconst (5 : Int32) dX9_tried_2 rfl ?_
  obtain ⟨hd_1, h⟩ := h
  refine g_callS ca_X9_194 (c_X9_isWithin (d := 0) (Nat.le_refl _) ) hd_1 (by decide) rfl rfl (by first | exact Nat.le_of_ble_eq_true rfl | decide) dX9_tried_3 (kI (fun v_2 μ_3 hq_4 => ?_))
  obtain ⟨ev_2, eμ_3⟩ := hq_4
  subst ev_2
  refine g_mem eμ_3 ?_
  refine g_if_eq (tgt := 39) dX9_tried_6 (by decide) (fun c_5 => ?_) (fun c_5 => ?_)
  · have h := h.1 c_5
    refine g_iconst (-1 : Int32) dX9_tried_39 rfl ?_
    exact g_iret dX9_tried_40 rfl rfl ⟨_, rfl, h⟩
  · have h := h.2 c_5
    refine g_iload_n dX9_tried_9 rfl ?_
    refine g_iconst (0 : Int32) dX9_tried_10 rfl ?_
    refine g_bipush (60 : Int32) dX9_tried_11 rfl ?_
    obtain ⟨hd_6, h⟩ := h
    refine g_callS ca_X9_194 (c_X9_isWithin (d := 0) (Nat.le_refl _) ) hd_6 (by decide) rfl rfl (by first | exact Nat.le_of_ble_eq_true rfl | decide) dX9_tried_13 (kI (fun v_7 μ_8 hq_9 => ?_))
    obtain ⟨ev_7, eμ_8⟩ := hq_9
    subst ev_7
    refine g_mem eμ_8 ?_
    refine g_if_eq (tgt := 39) dX9_tried_16 (by decide) (fun c_10 => ?_) (fun c_10 => ?_)
    · have h := h.1 c_10
      refine g_iconst (-1 : Int32) dX9_tried_39 rfl ?_
      exact g_iret dX9_tried_40 rfl rfl ⟨_, rfl, h⟩
    · have h := h.2 c_10
      refine g_iload_n dX9_tried_19 rfl ?_
      refine g_iconst (2 : Int32) dX9_tried_20 rfl ?_
      refine g_icmp_ne (tgt := 35) dX9_tried_21 (by decide) (fun c_11 => ?_) (fun c_11 => ?_)
      · have h := h.1 c_11
        refine g_iload_n dX9_tried_35 rfl ?_
        refine g_if_eq (tgt := 41) dX9_tried_36 (by decide) (fun c_12 => ?_) (fun c_12 => ?_)
        · have h := h.1 c_12
          exact g_sub [0, 1, 2, 3] rfl h
        · have h := h.2 c_12
          refine g_iconst (-1 : Int32) dX9_tried_39 rfl ?_
          exact g_iret dX9_tried_40 rfl rfl ⟨_, rfl, h⟩
      · have h := h.2 c_11
        refine g_aload_n dX9_tried_24 rfl ?_
        refine g_iload_n dX9_tried_25 rfl ?_
        obtain ⟨hd_13, hs_14, h⟩ := h
        refine g_cV ca_X9_121 ob_9 (c_X9_isMan (d := 1) (Nat.le_refl _) hr0 hs_14 ) hd_13 (by decide) hr0 rfl rfl (by first | exact Nat.le_of_ble_eq_true rfl | decide) dX9_tried_26 (kI (fun v_15 μ_16 hq_17 => ?_))
        obtain ⟨ev_15, eμ_16⟩ := hq_17
        subst ev_15
        refine g_mem eμ_16 ?_
        refine g_if_eq (tgt := 39) dX9_tried_29 (by decide) (fun c_18 => ?_) (fun c_18 => ?_)
        · have h := h.1 c_18
          refine g_iconst (-1 : Int32) dX9_tried_39 rfl ?_
          exact g_iret dX9_tried_40 rfl rfl ⟨_, rfl, h⟩
        · have h := h.2 c_18
          refine g_goto (tgt := 41) dX9_tried_32 (by decide) ?_
          exact g_sub [0, 1, 2, 3] rfl h
set_option maxRecDepth 20000 in
set_option maxHeartbeats 4000000 in
theorem bl_X9_tried_1 {l : Launch} {D : gD} {d : Nat} {q : Int32 → gMem → Prop} {Γ : gC} {r0 : Nat} {x1 : Int32} {x2 : Int32} {x3 : Int32} {μ : gMem} (hr0 : r0 < 1) (h : ∃ (d_1 : Nat) (q_2 : gMem → Prop), d_1 < d ∧ Ctr l D d_1 yX9_lookAtAll cX9_lookAtAll 1 none [.ref (D.2.2 9 r0)] μ (pV q_2) ∧ ∀ (μ_5 : gMem), q_2 μ_5 → (0 < d) ∧ (μ_5.2.2 0 < 2) ∧ ((((bI (¬ μ_5.1 7 (μ_5.2.2 0) 16 < (50 : Int32))) = 0) → pt_X9_tried_2 l D d q Γ r0 x1 x2 x3 μ_5) ∧ ((¬ (bI (¬ μ_5.1 7 (μ_5.2.2 0) 16 < (50 : Int32))) = 0) → ((x1 = (1 : Int32)) → pt_X9_tried_2 l D d q Γ r0 x1 x2 x3 μ_5) ∧ ((¬ x1 = (1 : Int32)) → pt_X9_tried_3 l D d q Γ r0 x1 x2 x3 (1 : Int32) μ_5)))) : pt_X9_tried_1 l D d q Γ r0 x1 x2 x3 μ := by
  unfold pt_X9_tried_1
  refine g_aload_n dX9_tried_41 rfl ?_
  obtain ⟨d_1, q_2, hd_3, hc_4, h⟩ := h
  refine g_cV ca_X9_268 ob_9 hc_4 hd_3 (by decide) hr0 rfl rfl (by first | exact Nat.le_of_ble_eq_true rfl | decide) dX9_tried_42 (kV (fun μ_5 hq_7 => ?_))
  have h := h μ_5 hq_7
  refine g_aload_n dX9_tried_45 rfl ?_
  obtain ⟨hd_8, hs_9, h⟩ := h
  refine g_cV ca_X9_313 ob_9 (c_X9_isWetAsItGoes (d := 0) (Nat.le_refl _) hr0 hs_9 ) hd_8 (by decide) hr0 rfl rfl (by first | exact Nat.le_of_ble_eq_true rfl | decide) dX9_tried_46 (kI (fun v_10 μ_11 hq_12 => ?_))
  obtain ⟨ev_10, eμ_11⟩ := hq_12
  subst ev_10
  refine g_mem eμ_11 ?_
  refine g_if_eq (tgt := 61) dX9_tried_49 (by decide) (fun c_13 => ?_) (fun c_13 => ?_)
  · have h := h.1 c_13
    exact g_sub [0, 1, 2, 3] rfl h
  · have h := h.2 c_13
    refine g_iload_n dX9_tried_52 rfl ?_
    refine g_iconst (1 : Int32) dX9_tried_53 rfl ?_
    refine g_icmp_eq (tgt := 61) dX9_tried_54 (by decide) (fun c_14 => ?_) (fun c_14 => ?_)
    · have h := h.1 c_14
      exact g_sub [0, 1, 2, 3] rfl h
    · have h := h.2 c_14
      refine g_iconst (1 : Int32) dX9_tried_57 rfl ?_
      refine g_goto (tgt := 62) dX9_tried_58 (by decide) ?_
      exact g_sub [0, 1, 2, 3] rfl h
set_option maxRecDepth 20000 in
set_option maxHeartbeats 4000000 in
theorem bl_X9_tried_2 {l : Launch} {D : gD} {d : Nat} {q : Int32 → gMem → Prop} {Γ : gC} {r0 : Nat} {x1 : Int32} {x2 : Int32} {x3 : Int32} {μ : gMem} (hr0 : r0 < 1) (h : pt_X9_tried_3 l D d q Γ r0 x1 x2 x3 (0 : Int32) μ) : pt_X9_tried_2 l D d q Γ r0 x1 x2 x3 μ := by
  unfold pt_X9_tried_2
  refine g_iconst (0 : Int32) dX9_tried_61 rfl ?_
  exact g_sub [0, 1, 2, 3] rfl h
set_option maxRecDepth 20000 in
set_option maxHeartbeats 4000000 in
theorem bl_X9_tried_3 {l : Launch} {D : gD} {d : Nat} {q : Int32 → gMem → Prop} {Γ : gC} {r0 : Nat} {x1 : Int32} {x2 : Int32} {x3 : Int32} {xs0 : Int32} {μ : gMem} (hr0 : r0 < 1) (h : ∀ x4_1 : Int32, x4_1 = xs0 → ((¬ x1 = (2 : Int32)) → pt_X9_tried_4 l D d q Γ r0 x1 x3 x4_1 μ) ∧ ((x1 = (2 : Int32)) → ∀ μ_3 : gMem, μ_3 = gsI μ 8 2 5 x2 → pt_X9_tried_4 l D d q Γ r0 x1 x3 x4_1 μ_3)) : pt_X9_tried_3 l D d q Γ r0 x1 x2 x3 xs0 μ := by
  unfold pt_X9_tried_3
  refine g_istore dX9_tried_62 (by decide) (fun x4_1 ex4_1 => g_sub (lv' := [(0, .ref (D.2.2 9 r0)), (1, .int x1), (2, .int x2), (3, .int x3), (4, .int x4_1)]) [1, 2, 3, 4, 0] rfl ?_)
  have h := h x4_1 ex4_1
  refine g_iload_n dX9_tried_64 rfl ?_
  refine g_iconst (2 : Int32) dX9_tried_65 rfl ?_
  refine g_icmp_ne (tgt := 77) dX9_tried_66 (by decide) (fun c_2 => ?_) (fun c_2 => ?_)
  · have h := h.1 c_2
    exact g_sub [0, 1, 3, 4] rfl h
  · have h := h.2 c_2
    refine g_aload_n dX9_tried_69 rfl ?_
    refine g_gfR fl_9_45 rfl hr0 dX9_tried_70 ?_
    refine g_iload_n dX9_tried_73 rfl ?_
    refine g_pfI fi_9_316 (by decide) rfl rfl dX9_tried_74 ?_
    obtain ⟨μ_3, eμ_3⟩ : ∃ z : gMem, z = gsI μ 8 2 5 x2 := ⟨_, rfl⟩
    have h := h μ_3 eμ_3
    refine g_mem eμ_3.symm ?_
    exact g_sub [0, 1, 3, 4] rfl h
set_option maxRecDepth 20000 in
set_option maxHeartbeats 4000000 in
theorem bl_X9_tried_4 {l : Launch} {D : gD} {d : Nat} {q : Int32 → gMem → Prop} {Γ : gC} {r0 : Nat} {x1 : Int32} {x3 : Int32} {x4 : Int32} {μ : gMem} (hr0 : r0 < 1) (h : ((¬ x1 = (5 : Int32)) → pt_X9_tried_5 l D d q Γ r0 x1 x3 x4 2 (0 : Int32) μ) ∧ ((x1 = (5 : Int32)) → pt_X9_tried_5 l D d q Γ r0 x1 x3 x4 2 (1 : Int32) μ)) : pt_X9_tried_4 l D d q Γ r0 x1 x3 x4 μ := by
  unfold pt_X9_tried_4
  refine g_aload_n dX9_tried_77 rfl ?_
  refine g_gfR fl_9_45 rfl hr0 dX9_tried_78 ?_
  refine g_iload_n dX9_tried_81 rfl ?_
  refine g_iconst (5 : Int32) dX9_tried_82 rfl ?_
  refine g_icmp_ne (tgt := 90) dX9_tried_83 (by decide) (fun c_1 => ?_) (fun c_1 => ?_)
  · have h := h.1 c_1
    refine g_iconst (0 : Int32) dX9_tried_90 rfl ?_
    exact g_sub [0, 1, 2, 3] rfl h
  · have h := h.2 c_1
    refine g_iconst (1 : Int32) dX9_tried_86 rfl ?_
    refine g_goto (tgt := 91) dX9_tried_87 (by decide) ?_
    exact g_sub [0, 1, 2, 3] rfl h
set_option maxRecDepth 20000 in
set_option maxHeartbeats 4000000 in
theorem bl_X9_tried_5 {l : Launch} {D : gD} {d : Nat} {q : Int32 → gMem → Prop} {Γ : gC} {r0 : Nat} {x1 : Int32} {x3 : Int32} {x4 : Int32} {rs0 : Nat} {xs1 : Int32} {μ : gMem} (hr0 : r0 < 1) (hrs0 : rs0 < 3) (h : (xs1 = 0 ∨ xs1 = 1) ∧ (∀ μ_1 : gMem, μ_1 = gsI μ 8 rs0 7 xs1 → ∀ x5_3 : Int32, x5_3 = (0 : Int32) → pt_X9_tried_6 l D d q Γ r0 x1 x3 x4 x5_3 μ_1)) : pt_X9_tried_5 l D d q Γ r0 x1 x3 x4 rs0 xs1 μ := by
  unfold pt_X9_tried_5
  obtain ⟨hz_2, h⟩ := h
  refine g_pfI fi_9_319 hrs0 (nar_z hz_2).1 (nar_z hz_2).2 dX9_tried_91 ?_
  obtain ⟨μ_1, eμ_1⟩ : ∃ z : gMem, z = gsI μ 8 rs0 7 xs1 := ⟨_, rfl⟩
  have h := h μ_1 eμ_1
  refine g_mem eμ_1.symm ?_
  refine g_iconst (0 : Int32) dX9_tried_94 rfl ?_
  refine g_istore dX9_tried_95 (by decide) (fun x5_3 ex5_3 => g_sub (lv' := [(0, .ref (D.2.2 9 r0)), (1, .int x1), (3, .int x3), (4, .int x4), (5, .int x5_3)]) [1, 2, 3, 4, 0] rfl ?_)
  have h := h x5_3 ex5_3
  exact g_sub [0, 1, 2, 3, 4] rfl h
set_option maxRecDepth 20000 in
set_option maxHeartbeats 4000000 in
theorem bl_X9_tried_6 {l : Launch} {D : gD} {d : Nat} {q : Int32 → gMem → Prop} {Γ : gC} {r0 : Nat} {x1 : Int32} {x3 : Int32} {x4 : Int32} {x5 : Int32} {μ : gMem} (hr0 : r0 < 1) (h : (μ.2.2 0 < 2) ∧ ((((μ.1 7 (μ.2.2 0) 0) ≤ x5) → ∀ x5_3 : Int32, x5_3 = (0 : Int32) → pt_X9_tried_10 l D d q Γ r0 x3 x4 x5_3 μ) ∧ ((¬ (μ.1 7 (μ.2.2 0) 0) ≤ x5) → ∃ j_4 : Nat, j_4 < 5 ∧ x5 = nI j_4 ∧ (((¬ (μ.1 4 (5 * 2 + j_4) 10) = 0) → pt_X9_tried_7 l D d q Γ r0 x1 x3 x4 x5 (5 * 2 + j_4) (5 * 2 + j_4) μ) ∧ (((μ.1 4 (5 * 2 + j_4) 10) = 0) → ((¬ x1 = (3 : Int32)) → pt_X9_tried_8 l D d q Γ r0 x1 x3 x4 x5 (5 * 2 + j_4) (5 * 2 + j_4) (0 : Int32) μ) ∧ ((x1 = (3 : Int32)) → pt_X9_tried_7 l D d q Γ r0 x1 x3 x4 x5 (5 * 2 + j_4) (5 * 2 + j_4) μ)))))) : pt_X9_tried_6 l D d q Γ r0 x1 x3 x4 x5 μ := by
  unfold pt_X9_tried_6
  refine g_iload dX9_tried_97 rfl ?_
  refine g_aload_n dX9_tried_99 rfl ?_
  obtain ⟨hR_1, h⟩ := h
  refine g_gfR fl_9_28 rfl hr0 dX9_tried_100 ?_
  refine g_gfI fi_9_108 hR_1 dX9_tried_103 ?_
  refine g_icmp_ge (tgt := 164) dX9_tried_106 (by decide) (fun c_2 => ?_) (fun c_2 => ?_)
  · have h := h.1 c_2
    refine g_iconst (0 : Int32) dX9_tried_164 rfl ?_
    refine g_istore dX9_tried_165 (by decide) (fun x5_3 ex5_3 => g_sub (lv' := [(0, .ref (D.2.2 9 r0)), (3, .int x3), (4, .int x4), (5, .int x5_3)]) [1, 3, 4, 0] rfl ?_)
    have h := h x5_3 ex5_3
    exact g_sub [0, 1, 2, 3] rfl h
  · have h := h.2 c_2
    refine g_aload_n dX9_tried_109 rfl ?_
    refine g_gfR fl_9_45 rfl hr0 dX9_tried_110 ?_
    refine g_gfR fl_9_132 rfl (by decide) dX9_tried_113 ?_
    refine g_iload dX9_tried_116 rfl ?_
    obtain ⟨j_4, hj_4, ej_4, h⟩ := h
    refine g_aald j_4 (by decide) hj_4 ej_4 dX9_tried_118 ?_
    have hp_5 : 5 * 2 + j_4 < 15 := by have : 2 < 3 := (by decide); omega
    refine g_astore dX9_tried_119 (by decide) (g_sub (lv' := [(0, .ref (D.2.2 9 r0)), (1, .int x1), (3, .int x3), (4, .int x4), (5, .int x5), (6, .ref (D.2.2 4 (5 * 2 + j_4)))]) [1, 2, 3, 4, 5, 0] rfl ?_)
    refine g_aload dX9_tried_121 rfl ?_
    refine g_aload dX9_tried_123 rfl ?_
    refine g_gfI fi_9_167 hp_5 dX9_tried_125 ?_
    refine g_if_ne (tgt := 136) dX9_tried_128 (by decide) (fun c_6 => ?_) (fun c_6 => ?_)
    · have h := h.1 c_6
      exact g_sub [0, 1, 2, 3, 4, 5] rfl h
    · have h := h.2 c_6
      refine g_iload_n dX9_tried_131 rfl ?_
      refine g_iconst (3 : Int32) dX9_tried_132 rfl ?_
      refine g_icmp_ne (tgt := 140) dX9_tried_133 (by decide) (fun c_7 => ?_) (fun c_7 => ?_)
      · have h := h.1 c_7
        refine g_iconst (0 : Int32) dX9_tried_140 rfl ?_
        exact g_sub [0, 1, 2, 3, 4, 5] rfl h
      · have h := h.2 c_7
        exact g_sub [0, 1, 2, 3, 4, 5] rfl h
set_option maxRecDepth 20000 in
set_option maxHeartbeats 4000000 in
theorem bl_X9_tried_7 {l : Launch} {D : gD} {d : Nat} {q : Int32 → gMem → Prop} {Γ : gC} {r0 : Nat} {x1 : Int32} {x3 : Int32} {x4 : Int32} {x5 : Int32} {r6 : Nat} {rs0 : Nat} {μ : gMem} (hr0 : r0 < 1) (hr6 : r6 < 15) (hrs0 : rs0 < 15) (h : pt_X9_tried_8 l D d q Γ r0 x1 x3 x4 x5 r6 rs0 (1 : Int32) μ) : pt_X9_tried_7 l D d q Γ r0 x1 x3 x4 x5 r6 rs0 μ := by
  unfold pt_X9_tried_7
  refine g_iconst (1 : Int32) dX9_tried_136 rfl ?_
  refine g_goto (tgt := 141) dX9_tried_137 (by decide) ?_
  exact g_sub [0, 1, 2, 3, 4, 5] rfl h
set_option maxRecDepth 20000 in
set_option maxHeartbeats 4000000 in
theorem bl_X9_tried_8 {l : Launch} {D : gD} {d : Nat} {q : Int32 → gMem → Prop} {Γ : gC} {r0 : Nat} {x1 : Int32} {x3 : Int32} {x4 : Int32} {x5 : Int32} {r6 : Nat} {rs0 : Nat} {xs1 : Int32} {μ : gMem} (hr0 : r0 < 1) (hr6 : r6 < 15) (hrs0 : rs0 < 15) (h : (xs1 = 0 ∨ xs1 = 1) ∧ (∀ μ_1 : gMem, μ_1 = gsI μ 4 rs0 10 xs1 → ((¬ x1 = (4 : Int32)) → pt_X9_tried_9 l D d q Γ r0 x1 x3 x4 x5 μ_1) ∧ ((x1 = (4 : Int32)) → ∃ (d_4 : Nat) (q_5 : gMem → Prop), d_4 < d ∧ Ctr l D d_4 yJ7_fill_53178 cJ7_fill_53178 4 none [.ref (D.2.2 331 r6), .int (0 : Int32)] μ_1 (pV q_5) ∧ ∀ (μ_8 : gMem), q_5 μ_8 → pt_X9_tried_9 l D d q Γ r0 x1 x3 x4 x5 μ_8))) : pt_X9_tried_8 l D d q Γ r0 x1 x3 x4 x5 r6 rs0 xs1 μ := by
  unfold pt_X9_tried_8
  obtain ⟨hz_2, h⟩ := h
  refine g_pfI fi_9_167 hrs0 (nar_z hz_2).1 (nar_z hz_2).2 dX9_tried_141 ?_
  obtain ⟨μ_1, eμ_1⟩ : ∃ z : gMem, z = gsI μ 4 rs0 10 xs1 := ⟨_, rfl⟩
  have h := h μ_1 eμ_1
  refine g_mem eμ_1.symm ?_
  refine g_iload_n dX9_tried_144 rfl ?_
  refine g_iconst (4 : Int32) dX9_tried_145 rfl ?_
  refine g_icmp_ne (tgt := 158) dX9_tried_146 (by decide) (fun c_3 => ?_) (fun c_3 => ?_)
  · have h := h.1 c_3
    exact g_sub [0, 1, 2, 3, 4] rfl h
  · have h := h.2 c_3
    refine g_aload dX9_tried_149 rfl ?_
    refine g_gfR fl_9_191 rfl hr6 dX9_tried_151 ?_
    refine g_iconst (0 : Int32) dX9_tried_154 rfl ?_
    obtain ⟨d_4, q_5, hd_6, hc_7, h⟩ := h
    refine g_callS ca_X9_322 hc_7 hd_6 (by decide) rfl rfl (by first | exact Nat.le_of_ble_eq_true rfl | decide) dX9_tried_155 (kV (fun μ_8 hq_10 => ?_))
    have h := h μ_8 hq_10
    exact g_sub [0, 1, 2, 3, 4] rfl h
set_option maxRecDepth 20000 in
set_option maxHeartbeats 4000000 in
theorem bl_X9_tried_9 {l : Launch} {D : gD} {d : Nat} {q : Int32 → gMem → Prop} {Γ : gC} {r0 : Nat} {x1 : Int32} {x3 : Int32} {x4 : Int32} {x5 : Int32} {μ : gMem} (hr0 : r0 < 1) (h : ∀ x5_1 : Int32, x5_1 = x5 + (1 : Int32) → pt_X9_tried_6 l D d q Γ r0 x1 x3 x4 x5_1 μ) : pt_X9_tried_9 l D d q Γ r0 x1 x3 x4 x5 μ := by
  unfold pt_X9_tried_9
  refine g_iinc dX9_tried_158 rfl (by decide) (fun x5_1 ex5_1 => g_sub (lv' := [(0, .ref (D.2.2 9 r0)), (1, .int x1), (3, .int x3), (4, .int x4), (5, .int x5_1)]) [1, 2, 3, 4, 0] rfl ?_)
  have h := h x5_1 ex5_1
  refine g_goto (tgt := 97) dX9_tried_161 (by decide) ?_
  exact g_sub [0, 1, 2, 3, 4] rfl h
set_option maxRecDepth 20000 in
set_option maxHeartbeats 4000000 in
theorem bl_X9_tried_10 {l : Launch} {D : gD} {d : Nat} {q : Int32 → gMem → Prop} {Γ : gC} {r0 : Nat} {x3 : Int32} {x4 : Int32} {x5 : Int32} {μ : gMem} (hr0 : r0 < 1) (h : ((x3 ≤ x5) → (μ.2.2 0 < 2) ∧ (∃ (d_3 : Nat) (q_4 : Int32 → gMem → Prop), d_3 < d ∧ Ctr l D d_3 yX8_inAll cX8_inAll 6 (some .int) [.ref (D.2.2 8 2), .int (0 : Int32), .int (μ.1 7 (μ.2.2 0) 0)] μ (pI q_4) ∧ ∀ (v_8 : Int32) (μ_7 : gMem), q_4 v_8 μ_7 → (μ_7.2.2 0 < 2) ∧ (∃ (d_11 : Nat) (q_12 : Int32 → gMem → Prop), d_11 < d ∧ Ctr l D d_11 yX8_inAll cX8_inAll 6 (some .int) [.ref (D.2.2 8 0), .int (0 : Int32), .int (μ_7.1 7 (μ_7.2.2 0) 0)] μ_7 (pI q_12) ∧ ∀ (v_16 : Int32) (μ_15 : gMem), q_12 v_16 μ_15 → q (v_8 - v_16) μ_15))) ∧ ((¬ x3 ≤ x5) → (μ.2.2 0 < 2) ∧ (∃ (d_19 : Nat) (q_20 : gMem → Prop), d_19 < d ∧ Ctr l D d_19 yX8_passDay cX8_passDay 4 none [.ref (D.2.2 8 2), .ref (D.2.2 7 (μ.2.2 0)), .int x4] μ (pV q_20) ∧ ∀ (μ_23 : gMem), q_20 μ_23 → ∀ x5_26 : Int32, x5_26 = x5 + (1 : Int32) → pt_X9_tried_10 l D d q Γ r0 x3 x4 x5_26 μ_23))) : pt_X9_tried_10 l D d q Γ r0 x3 x4 x5 μ := by
  unfold pt_X9_tried_10
  refine g_iload dX9_tried_167 rfl ?_
  refine g_iload_n dX9_tried_169 rfl ?_
  refine g_icmp_ge (tgt := 192) dX9_tried_170 (by decide) (fun c_1 => ?_) (fun c_1 => ?_)
  · have h := h.1 c_1
    refine g_aload_n dX9_tried_192 rfl ?_
    refine g_gfR fl_9_45 rfl hr0 dX9_tried_193 ?_
    refine g_iconst (0 : Int32) dX9_tried_196 rfl ?_
    refine g_aload_n dX9_tried_197 rfl ?_
    obtain ⟨hR_2, h⟩ := h
    refine g_gfR fl_9_28 rfl hr0 dX9_tried_198 ?_
    refine g_gfI fi_9_108 hR_2 dX9_tried_201 ?_
    obtain ⟨d_3, q_4, hd_5, hc_6, h⟩ := h
    refine g_cV ca_X9_328 ob_8 hc_6 hd_5 (by decide) (by decide) rfl rfl (by first | exact Nat.le_of_ble_eq_true rfl | decide) dX9_tried_204 (kI (fun v_8 μ_7 hq_9 => ?_))
    have h := h v_8 μ_7 hq_9
    refine g_aload_n dX9_tried_207 rfl ?_
    refine g_gfR fl_9_38 rfl hr0 dX9_tried_208 ?_
    refine g_iconst (0 : Int32) dX9_tried_211 rfl ?_
    refine g_aload_n dX9_tried_212 rfl ?_
    obtain ⟨hR_10, h⟩ := h
    refine g_gfR fl_9_28 rfl hr0 dX9_tried_213 ?_
    refine g_gfI fi_9_108 hR_10 dX9_tried_216 ?_
    obtain ⟨d_11, q_12, hd_13, hc_14, h⟩ := h
    refine g_cV ca_X9_328 ob_8 hc_14 hd_13 (by decide) (by decide) rfl rfl (by first | exact Nat.le_of_ble_eq_true rfl | decide) dX9_tried_219 (kI (fun v_16 μ_15 hq_17 => ?_))
    have h := h v_16 μ_15 hq_17
    refine g_isub dX9_tried_222 ?_
    exact g_iret dX9_tried_223 rfl rfl ⟨_, rfl, h⟩
  · have h := h.2 c_1
    refine g_aload_n dX9_tried_173 rfl ?_
    refine g_gfR fl_9_45 rfl hr0 dX9_tried_174 ?_
    refine g_aload_n dX9_tried_177 rfl ?_
    obtain ⟨hR_18, h⟩ := h
    refine g_gfR fl_9_28 rfl hr0 dX9_tried_178 ?_
    refine g_iload dX9_tried_181 rfl ?_
    obtain ⟨d_19, q_20, hd_21, hc_22, h⟩ := h
    refine g_cV ca_X9_239 ob_8 hc_22 hd_21 (by decide) (by decide) rfl rfl (by first | exact Nat.le_of_ble_eq_true rfl | decide) dX9_tried_183 (kV (fun μ_23 hq_25 => ?_))
    have h := h μ_23 hq_25
    refine g_iinc dX9_tried_186 rfl (by decide) (fun x5_26 ex5_26 => g_sub (lv' := [(0, .ref (D.2.2 9 r0)), (3, .int x3), (4, .int x4), (5, .int x5_26)]) [1, 2, 3, 0] rfl ?_)
    have h := h x5_26 ex5_26
    refine g_goto (tgt := 167) dX9_tried_189 (by decide) ?_
    exact g_sub [0, 1, 2, 3] rfl h
theorem en_X9_tried {l : Launch} {D : gD} {d : Nat} {q : Int32 → gMem → Prop} {r0 : Nat} {x1 : Int32} {x2 : Int32} {x3 : Int32} {μ : gMem} (h : ∀ Γ : gC, pt_X9_tried_0 l D d q Γ r0 x1 x2 x3 μ) : Ctr l D d yX9_tried cX9_tried 7 (some .int) [.ref (D.2.2 9 r0), .int x1, .int x2, .int x3] μ (pI q) :=
  Ctr_of rfl (by decide) (Nat.le_of_ble_eq_true rfl) (fun Γ => g_sub [0, 1, 2, 3] rfl (h Γ))
def pt_X9_undo_0 (l : Launch) (D : gD) (d : Nat) (q : Int32 → gMem → Prop) (Γ : gC) (r0 : Nat) (μ : gMem) : Prop := G l D RX9 cX9_undo 1 (some .int) d (pI q) Γ 0 [(0, .ref (D.2.2 9 r0))] [] μ
set_option maxRecDepth 20000 in
set_option maxHeartbeats 4000000 in
theorem bl_X9_undo_0 {l : Launch} {D : gD} {d : Nat} {q : Int32 → gMem → Prop} {Γ : gC} {r0 : Nat} {μ : gMem} (hr0 : r0 < 1) (h : ((¬ (μ.1 0 0 4) = 0) → ∃ (d_2 : Nat) (q_3 : gMem → Prop), d_2 < d ∧ Ctr l D d_2 yX0_takeBack cX0_takeBack 3 none [.ref (D.2.2 0 0), .ref (D.2.2 8 0)] μ (pV q_3) ∧ ∀ (μ_6 : gMem), q_3 μ_6 → q (μ_6.1 0 0 4) μ_6) ∧ (((μ.1 0 0 4) = 0) → q (-1 : Int32) μ)) : pt_X9_undo_0 l D d q Γ r0 μ := by
  unfold pt_X9_undo_0
  refine g_aload_n dX9_undo_0 rfl ?_
  refine g_gfR fl_9_58 rfl hr0 dX9_undo_1 ?_
  refine g_gfI fi_9_96 (by decide) dX9_undo_4 ?_
  refine g_if_ne (tgt := 12) dX9_undo_7 (by decide) (fun c_1 => ?_) (fun c_1 => ?_)
  · have h := h.1 c_1
    refine g_aload_n dX9_undo_12 rfl ?_
    refine g_gfR fl_9_58 rfl hr0 dX9_undo_13 ?_
    refine g_aload_n dX9_undo_16 rfl ?_
    refine g_gfR fl_9_38 rfl hr0 dX9_undo_17 ?_
    obtain ⟨d_2, q_3, hd_4, hc_5, h⟩ := h
    refine g_cV ca_X9_331 ob_0 hc_5 hd_4 (by decide) (by decide) rfl rfl (by first | exact Nat.le_of_ble_eq_true rfl | decide) dX9_undo_20 (kV (fun μ_6 hq_8 => ?_))
    have h := h μ_6 hq_8
    refine g_aload_n dX9_undo_23 rfl ?_
    refine g_gfR fl_9_58 rfl hr0 dX9_undo_24 ?_
    refine g_gfI fi_9_96 (by decide) dX9_undo_27 ?_
    exact g_iret dX9_undo_30 rfl rfl ⟨_, rfl, h⟩
  · have h := h.2 c_1
    refine g_iconst (-1 : Int32) dX9_undo_10 rfl ?_
    exact g_iret dX9_undo_11 rfl rfl ⟨_, rfl, h⟩
theorem en_X9_undo {l : Launch} {D : gD} {d : Nat} {q : Int32 → gMem → Prop} {r0 : Nat} {μ : gMem} (h : ∀ Γ : gC, pt_X9_undo_0 l D d q Γ r0 μ) : Ctr l D d yX9_undo cX9_undo 1 (some .int) [.ref (D.2.2 9 r0)] μ (pI q) :=
  Ctr_of rfl (by decide) (Nat.le_of_ble_eq_true rfl) (fun Γ => g_sub [0] rfl (h Γ))
def pt_X9_keep_0 (l : Launch) (D : gD) (d : Nat) (q : Int32 → gMem → Prop) (Γ : gC) (r0 : Nat) (μ : gMem) : Prop := G l D RX9 cX9_keep 1 (some .int) d (pI q) Γ 0 [(0, .ref (D.2.2 9 r0))] [] μ
set_option maxRecDepth 20000 in
set_option maxHeartbeats 4000000 in
theorem bl_X9_keep_0 {l : Launch} {D : gD} {d : Nat} {q : Int32 → gMem → Prop} {Γ : gC} {r0 : Nat} {μ : gMem} (hr0 : r0 < 1) (h : ∃ (d_1 : Nat) (q_2 : gMem → Prop), d_1 < d ∧ Ctr l D d_1 yX8_copyFrom cX8_copyFrom 3 none [.ref (D.2.2 8 1), .ref (D.2.2 8 0)] μ (pV q_2) ∧ ∀ (μ_5 : gMem), q_2 μ_5 → ∀ μ_8 : gMem, μ_8 = gsI μ_5 9 r0 11 (1 : Int32) → q (μ_8.1 8 0 1) μ_8) : pt_X9_keep_0 l D d q Γ r0 μ := by
  unfold pt_X9_keep_0
  refine g_aload_n dX9_keep_0 rfl ?_
  refine g_gfR fl_9_42 rfl hr0 dX9_keep_1 ?_
  refine g_aload_n dX9_keep_4 rfl ?_
  refine g_gfR fl_9_38 rfl hr0 dX9_keep_5 ?_
  obtain ⟨d_1, q_2, hd_3, hc_4, h⟩ := h
  refine g_cV ca_X9_335 ob_8 hc_4 hd_3 (by decide) (by decide) rfl rfl (by first | exact Nat.le_of_ble_eq_true rfl | decide) dX9_keep_8 (kV (fun μ_5 hq_7 => ?_))
  have h := h μ_5 hq_7
  refine g_aload_n dX9_keep_11 rfl ?_
  refine g_iconst (1 : Int32) dX9_keep_12 rfl ?_
  refine g_pfI fi_9_69 hr0 rfl rfl dX9_keep_13 ?_
  obtain ⟨μ_8, eμ_8⟩ : ∃ z : gMem, z = gsI μ_5 9 r0 11 (1 : Int32) := ⟨_, rfl⟩
  have h := h μ_8 eμ_8
  refine g_mem eμ_8.symm ?_
  refine g_aload_n dX9_keep_16 rfl ?_
  refine g_gfR fl_9_38 rfl hr0 dX9_keep_17 ?_
  refine g_gfI fi_9_230 (by decide) dX9_keep_20 ?_
  exact g_iret dX9_keep_23 rfl rfl ⟨_, rfl, h⟩
theorem en_X9_keep {l : Launch} {D : gD} {d : Nat} {q : Int32 → gMem → Prop} {r0 : Nat} {μ : gMem} (h : ∀ Γ : gC, pt_X9_keep_0 l D d q Γ r0 μ) : Ctr l D d yX9_keep cX9_keep 1 (some .int) [.ref (D.2.2 9 r0)] μ (pI q) :=
  Ctr_of rfl (by decide) (Nat.le_of_ble_eq_true rfl) (fun Γ => g_sub [0] rfl (h Γ))
def pt_X9_back_0 (l : Launch) (D : gD) (d : Nat) (q : Int32 → gMem → Prop) (Γ : gC) (r0 : Nat) (μ : gMem) : Prop := G l D RX9 cX9_back 1 (some .int) d (pI q) Γ 0 [(0, .ref (D.2.2 9 r0))] [] μ
set_option maxRecDepth 20000 in
set_option maxHeartbeats 4000000 in
theorem bl_X9_back_0 {l : Launch} {D : gD} {d : Nat} {q : Int32 → gMem → Prop} {Γ : gC} {r0 : Nat} {μ : gMem} (hr0 : r0 < 1) (h : ((¬ (μ.1 9 r0 11) = 0) → ∃ (d_2 : Nat) (q_3 : gMem → Prop), d_2 < d ∧ Ctr l D d_2 yX8_copyFrom cX8_copyFrom 3 none [.ref (D.2.2 8 0), .ref (D.2.2 8 1)] μ (pV q_3) ∧ ∀ (μ_6 : gMem), q_3 μ_6 → ∀ μ_9 : gMem, μ_9 = gsI μ_6 0 0 4 (0 : Int32) → q (μ_9.1 8 0 1) μ_9) ∧ (((μ.1 9 r0 11) = 0) → q (-1 : Int32) μ)) : pt_X9_back_0 l D d q Γ r0 μ := by
  unfold pt_X9_back_0
  refine g_aload_n dX9_back_0 rfl ?_
  refine g_gfI fi_9_69 hr0 dX9_back_1 ?_
  refine g_if_ne (tgt := 9) dX9_back_4 (by decide) (fun c_1 => ?_) (fun c_1 => ?_)
  · have h := h.1 c_1
    refine g_aload_n dX9_back_9 rfl ?_
    refine g_gfR fl_9_38 rfl hr0 dX9_back_10 ?_
    refine g_aload_n dX9_back_13 rfl ?_
    refine g_gfR fl_9_42 rfl hr0 dX9_back_14 ?_
    obtain ⟨d_2, q_3, hd_4, hc_5, h⟩ := h
    refine g_cV ca_X9_335 ob_8 hc_5 hd_4 (by decide) (by decide) rfl rfl (by first | exact Nat.le_of_ble_eq_true rfl | decide) dX9_back_17 (kV (fun μ_6 hq_8 => ?_))
    have h := h μ_6 hq_8
    refine g_aload_n dX9_back_20 rfl ?_
    refine g_gfR fl_9_58 rfl hr0 dX9_back_21 ?_
    refine g_iconst (0 : Int32) dX9_back_24 rfl ?_
    refine g_pfI fi_9_96 (by decide) rfl rfl dX9_back_25 ?_
    obtain ⟨μ_9, eμ_9⟩ : ∃ z : gMem, z = gsI μ_6 0 0 4 (0 : Int32) := ⟨_, rfl⟩
    have h := h μ_9 eμ_9
    refine g_mem eμ_9.symm ?_
    refine g_aload_n dX9_back_28 rfl ?_
    refine g_gfR fl_9_38 rfl hr0 dX9_back_29 ?_
    refine g_gfI fi_9_230 (by decide) dX9_back_32 ?_
    exact g_iret dX9_back_35 rfl rfl ⟨_, rfl, h⟩
  · have h := h.2 c_1
    refine g_iconst (-1 : Int32) dX9_back_7 rfl ?_
    exact g_iret dX9_back_8 rfl rfl ⟨_, rfl, h⟩
theorem en_X9_back {l : Launch} {D : gD} {d : Nat} {q : Int32 → gMem → Prop} {r0 : Nat} {μ : gMem} (h : ∀ Γ : gC, pt_X9_back_0 l D d q Γ r0 μ) : Ctr l D d yX9_back cX9_back 1 (some .int) [.ref (D.2.2 9 r0)] μ (pI q) :=
  Ctr_of rfl (by decide) (Nat.le_of_ble_eq_true rfl) (fun Γ => g_sub [0] rfl (h Γ))
def pt_X9_count_0 (l : Launch) (D : gD) (d : Nat) (q : Int32 → gMem → Prop) (Γ : gC) (r0 : Nat) (x1 : Int32) (μ : gMem) : Prop := G l D RX9 cX9_count 2 (some .int) d (pI q) Γ 0 [(0, .ref (D.2.2 9 r0)), (1, .int x1)] [] μ
set_option maxRecDepth 20000 in
set_option maxHeartbeats 4000000 in
theorem bl_X9_count_0 {l : Launch} {D : gD} {d : Nat} {q : Int32 → gMem → Prop} {Γ : gC} {r0 : Nat} {x1 : Int32} {μ : gMem} (hr0 : r0 < 1) (h : (x1 = (0 : Int32) → (μ.2.2 0 < 2) ∧ (q (μ.1 7 (μ.2.2 0) 0) μ)) ∧ (x1 = (1 : Int32) → (μ.2.2 0 < 2) ∧ (q (μ.1 7 (μ.2.2 0) 5) μ)) ∧ (x1 = (2 : Int32) → (μ.2.2 0 < 2) ∧ (q (μ.1 7 (μ.2.2 0) 10) μ)) ∧ (x1 = (3 : Int32) → (μ.2.2 0 < 2) ∧ (q (μ.1 2 (μ.2.2 0) 7) μ)) ∧ (x1 = (4 : Int32) → q (μ.1 8 0 1) μ) ∧ (x1 = (5 : Int32) → q (μ.1 8 0 2) μ) ∧ (x1 = (6 : Int32) → (μ.2.2 0 < 2) ∧ (∃ (d_7 : Nat) (q_8 : Int32 → gMem → Prop), d_7 < d ∧ Ctr l D d_7 yX8_inAll cX8_inAll 6 (some .int) [.ref (D.2.2 8 0), .int (0 : Int32), .int (μ.1 7 (μ.2.2 0) 0)] μ (pI q_8) ∧ ∀ (v_12 : Int32) (μ_11 : gMem), q_8 v_12 μ_11 → q v_12 μ_11)) ∧ (x1 = (7 : Int32) → (μ.2.2 0 < 2) ∧ (∃ (d_15 : Nat) (q_16 : Int32 → gMem → Prop), d_15 < d ∧ Ctr l D d_15 yX8_inAll cX8_inAll 6 (some .int) [.ref (D.2.2 8 0), .int (1 : Int32), .int (μ.1 7 (μ.2.2 0) 0)] μ (pI q_16) ∧ ∀ (v_20 : Int32) (μ_19 : gMem), q_16 v_20 μ_19 → q v_20 μ_19)) ∧ (x1 = (8 : Int32) → (μ.2.2 0 < 2) ∧ (∃ (d_23 : Nat) (q_24 : Int32 → gMem → Prop), d_23 < d ∧ Ctr l D d_23 yX8_inAll cX8_inAll 6 (some .int) [.ref (D.2.2 8 0), .int (2 : Int32), .int (μ.1 7 (μ.2.2 0) 0)] μ (pI q_24) ∧ ∀ (v_28 : Int32) (μ_27 : gMem), q_24 v_28 μ_27 → q v_28 μ_27)) ∧ (x1 = (9 : Int32) → (μ.2.2 0 < 2) ∧ (∃ (d_31 : Nat) (q_32 : Int32 → gMem → Prop), d_31 < d ∧ Ctr l D d_31 yX8_inAll cX8_inAll 6 (some .int) [.ref (D.2.2 8 0), .int (3 : Int32), .int (μ.1 7 (μ.2.2 0) 0)] μ (pI q_32) ∧ ∀ (v_36 : Int32) (μ_35 : gMem), q_32 v_36 μ_35 → q v_36 μ_35)) ∧ (x1 = (10 : Int32) → (μ.2.2 0 < 2) ∧ (∃ (d_39 : Nat) (q_40 : Int32 → gMem → Prop), d_39 < d ∧ Ctr l D d_39 yX8_inAll cX8_inAll 6 (some .int) [.ref (D.2.2 8 0), .int (4 : Int32), .int (μ.1 7 (μ.2.2 0) 0)] μ (pI q_40) ∧ ∀ (v_44 : Int32) (μ_43 : gMem), q_40 v_44 μ_43 → q v_44 μ_43)) ∧ (x1 = (11 : Int32) → q (μ.1 3 0 6) μ) ∧ (x1 = (12 : Int32) → (0 < d) ∧ (q (fkn (μ.1 3 0 7) (μ.1 3 0 6)) μ)) ∧ (x1 = (13 : Int32) → q (μ.1 0 0 4) μ) ∧ ((¬ x1 = (0 : Int32) ∧ ¬ x1 = (1 : Int32) ∧ ¬ x1 = (2 : Int32) ∧ ¬ x1 = (3 : Int32) ∧ ¬ x1 = (4 : Int32) ∧ ¬ x1 = (5 : Int32) ∧ ¬ x1 = (6 : Int32) ∧ ¬ x1 = (7 : Int32) ∧ ¬ x1 = (8 : Int32) ∧ ¬ x1 = (9 : Int32) ∧ ¬ x1 = (10 : Int32) ∧ ¬ x1 = (11 : Int32) ∧ ¬ x1 = (12 : Int32) ∧ ¬ x1 = (13 : Int32)) → q (-1 : Int32) μ)) : pt_X9_count_0 l D d q Γ r0 x1 μ := by
  unfold pt_X9_count_0
  refine g_iload_n dX9_count_0 rfl ?_
  by_cases c_1_0 : x1 = (0 : Int32)
  · refine g_tableIn (off := 71) (tgt := 72) dX9_count_1 (by rw [c_1_0]; decide) (by rw [c_1_0]; decide) (by rw [c_1_0]; rfl) (by decide) ?_
    have h := h.1 c_1_0
    refine g_aload_n dX9_count_72 rfl ?_
    obtain ⟨hR_2, h⟩ := h
    refine g_gfR fl_9_28 rfl hr0 dX9_count_73 ?_
    refine g_gfI fi_9_108 hR_2 dX9_count_76 ?_
    exact g_iret dX9_count_79 rfl rfl ⟨_, rfl, h⟩
  by_cases c_1_1 : x1 = (1 : Int32)
  · refine g_tableIn (off := 79) (tgt := 80) dX9_count_1 (by rw [c_1_1]; decide) (by rw [c_1_1]; decide) (by rw [c_1_1]; rfl) (by decide) ?_
    have h := h.2.1 c_1_1
    refine g_aload_n dX9_count_80 rfl ?_
    obtain ⟨hR_3, h⟩ := h
    refine g_gfR fl_9_28 rfl hr0 dX9_count_81 ?_
    refine g_gfI fi_9_118 hR_3 dX9_count_84 ?_
    exact g_iret dX9_count_87 rfl rfl ⟨_, rfl, h⟩
  by_cases c_1_2 : x1 = (2 : Int32)
  · refine g_tableIn (off := 87) (tgt := 88) dX9_count_1 (by rw [c_1_2]; decide) (by rw [c_1_2]; decide) (by rw [c_1_2]; rfl) (by decide) ?_
    have h := h.2.2.1 c_1_2
    refine g_aload_n dX9_count_88 rfl ?_
    obtain ⟨hR_4, h⟩ := h
    refine g_gfR fl_9_28 rfl hr0 dX9_count_89 ?_
    refine g_gfI fi_9_338 hR_4 dX9_count_92 ?_
    exact g_iret dX9_count_95 rfl rfl ⟨_, rfl, h⟩
  by_cases c_1_3 : x1 = (3 : Int32)
  · refine g_tableIn (off := 95) (tgt := 96) dX9_count_1 (by rw [c_1_3]; decide) (by rw [c_1_3]; decide) (by rw [c_1_3]; rfl) (by decide) ?_
    have h := h.2.2.2.1 c_1_3
    refine g_aload_n dX9_count_96 rfl ?_
    obtain ⟨hR_5, h⟩ := h
    refine g_gfR fl_9_28 rfl hr0 dX9_count_97 ?_
    refine g_gfR fl_9_198 rfl hR_5 dX9_count_100 ?_
    refine g_gfI fi_9_341 hR_5 dX9_count_103 ?_
    exact g_iret dX9_count_106 rfl rfl ⟨_, rfl, h⟩
  by_cases c_1_4 : x1 = (4 : Int32)
  · refine g_tableIn (off := 106) (tgt := 107) dX9_count_1 (by rw [c_1_4]; decide) (by rw [c_1_4]; decide) (by rw [c_1_4]; rfl) (by decide) ?_
    have h := h.2.2.2.2.1 c_1_4
    refine g_aload_n dX9_count_107 rfl ?_
    refine g_gfR fl_9_38 rfl hr0 dX9_count_108 ?_
    refine g_gfI fi_9_230 (by decide) dX9_count_111 ?_
    exact g_iret dX9_count_114 rfl rfl ⟨_, rfl, h⟩
  by_cases c_1_5 : x1 = (5 : Int32)
  · refine g_tableIn (off := 114) (tgt := 115) dX9_count_1 (by rw [c_1_5]; decide) (by rw [c_1_5]; decide) (by rw [c_1_5]; rfl) (by decide) ?_
    have h := h.2.2.2.2.2.1 c_1_5
    refine g_aload_n dX9_count_115 rfl ?_
    refine g_gfR fl_9_38 rfl hr0 dX9_count_116 ?_
    refine g_gfI fi_9_344 (by decide) dX9_count_119 ?_
    exact g_iret dX9_count_122 rfl rfl ⟨_, rfl, h⟩
  by_cases c_1_6 : x1 = (6 : Int32)
  · refine g_tableIn (off := 122) (tgt := 123) dX9_count_1 (by rw [c_1_6]; decide) (by rw [c_1_6]; decide) (by rw [c_1_6]; rfl) (by decide) ?_
    have h := h.2.2.2.2.2.2.1 c_1_6
    refine g_aload_n dX9_count_123 rfl ?_
    refine g_gfR fl_9_38 rfl hr0 dX9_count_124 ?_
    refine g_iconst (0 : Int32) dX9_count_127 rfl ?_
    refine g_aload_n dX9_count_128 rfl ?_
    obtain ⟨hR_6, h⟩ := h
    refine g_gfR fl_9_28 rfl hr0 dX9_count_129 ?_
    refine g_gfI fi_9_108 hR_6 dX9_count_132 ?_
    obtain ⟨d_7, q_8, hd_9, hc_10, h⟩ := h
    refine g_cV ca_X9_328 ob_8 hc_10 hd_9 (by decide) (by decide) rfl rfl (by first | exact Nat.le_of_ble_eq_true rfl | decide) dX9_count_135 (kI (fun v_12 μ_11 hq_13 => ?_))
    have h := h v_12 μ_11 hq_13
    exact g_iret dX9_count_138 rfl rfl ⟨_, rfl, h⟩
  by_cases c_1_7 : x1 = (7 : Int32)
  · refine g_tableIn (off := 138) (tgt := 139) dX9_count_1 (by rw [c_1_7]; decide) (by rw [c_1_7]; decide) (by rw [c_1_7]; rfl) (by decide) ?_
    have h := h.2.2.2.2.2.2.2.1 c_1_7
    refine g_aload_n dX9_count_139 rfl ?_
    refine g_gfR fl_9_38 rfl hr0 dX9_count_140 ?_
    refine g_iconst (1 : Int32) dX9_count_143 rfl ?_
    refine g_aload_n dX9_count_144 rfl ?_
    obtain ⟨hR_14, h⟩ := h
    refine g_gfR fl_9_28 rfl hr0 dX9_count_145 ?_
    refine g_gfI fi_9_108 hR_14 dX9_count_148 ?_
    obtain ⟨d_15, q_16, hd_17, hc_18, h⟩ := h
    refine g_cV ca_X9_328 ob_8 hc_18 hd_17 (by decide) (by decide) rfl rfl (by first | exact Nat.le_of_ble_eq_true rfl | decide) dX9_count_151 (kI (fun v_20 μ_19 hq_21 => ?_))
    have h := h v_20 μ_19 hq_21
    exact g_iret dX9_count_154 rfl rfl ⟨_, rfl, h⟩
  by_cases c_1_8 : x1 = (8 : Int32)
  · refine g_tableIn (off := 154) (tgt := 155) dX9_count_1 (by rw [c_1_8]; decide) (by rw [c_1_8]; decide) (by rw [c_1_8]; rfl) (by decide) ?_
    have h := h.2.2.2.2.2.2.2.2.1 c_1_8
    refine g_aload_n dX9_count_155 rfl ?_
    refine g_gfR fl_9_38 rfl hr0 dX9_count_156 ?_
    refine g_iconst (2 : Int32) dX9_count_159 rfl ?_
    refine g_aload_n dX9_count_160 rfl ?_
    obtain ⟨hR_22, h⟩ := h
    refine g_gfR fl_9_28 rfl hr0 dX9_count_161 ?_
    refine g_gfI fi_9_108 hR_22 dX9_count_164 ?_
    obtain ⟨d_23, q_24, hd_25, hc_26, h⟩ := h
    refine g_cV ca_X9_328 ob_8 hc_26 hd_25 (by decide) (by decide) rfl rfl (by first | exact Nat.le_of_ble_eq_true rfl | decide) dX9_count_167 (kI (fun v_28 μ_27 hq_29 => ?_))
    have h := h v_28 μ_27 hq_29
    exact g_iret dX9_count_170 rfl rfl ⟨_, rfl, h⟩
  by_cases c_1_9 : x1 = (9 : Int32)
  · refine g_tableIn (off := 170) (tgt := 171) dX9_count_1 (by rw [c_1_9]; decide) (by rw [c_1_9]; decide) (by rw [c_1_9]; rfl) (by decide) ?_
    have h := h.2.2.2.2.2.2.2.2.2.1 c_1_9
    refine g_aload_n dX9_count_171 rfl ?_
    refine g_gfR fl_9_38 rfl hr0 dX9_count_172 ?_
    refine g_iconst (3 : Int32) dX9_count_175 rfl ?_
    refine g_aload_n dX9_count_176 rfl ?_
    obtain ⟨hR_30, h⟩ := h
    refine g_gfR fl_9_28 rfl hr0 dX9_count_177 ?_
    refine g_gfI fi_9_108 hR_30 dX9_count_180 ?_
    obtain ⟨d_31, q_32, hd_33, hc_34, h⟩ := h
    refine g_cV ca_X9_328 ob_8 hc_34 hd_33 (by decide) (by decide) rfl rfl (by first | exact Nat.le_of_ble_eq_true rfl | decide) dX9_count_183 (kI (fun v_36 μ_35 hq_37 => ?_))
    have h := h v_36 μ_35 hq_37
    exact g_iret dX9_count_186 rfl rfl ⟨_, rfl, h⟩
  by_cases c_1_10 : x1 = (10 : Int32)
  · refine g_tableIn (off := 186) (tgt := 187) dX9_count_1 (by rw [c_1_10]; decide) (by rw [c_1_10]; decide) (by rw [c_1_10]; rfl) (by decide) ?_
    have h := h.2.2.2.2.2.2.2.2.2.2.1 c_1_10
    refine g_aload_n dX9_count_187 rfl ?_
    refine g_gfR fl_9_38 rfl hr0 dX9_count_188 ?_
    refine g_iconst (4 : Int32) dX9_count_191 rfl ?_
    refine g_aload_n dX9_count_192 rfl ?_
    obtain ⟨hR_38, h⟩ := h
    refine g_gfR fl_9_28 rfl hr0 dX9_count_193 ?_
    refine g_gfI fi_9_108 hR_38 dX9_count_196 ?_
    obtain ⟨d_39, q_40, hd_41, hc_42, h⟩ := h
    refine g_cV ca_X9_328 ob_8 hc_42 hd_41 (by decide) (by decide) rfl rfl (by first | exact Nat.le_of_ble_eq_true rfl | decide) dX9_count_199 (kI (fun v_44 μ_43 hq_45 => ?_))
    have h := h v_44 μ_43 hq_45
    exact g_iret dX9_count_202 rfl rfl ⟨_, rfl, h⟩
  by_cases c_1_11 : x1 = (11 : Int32)
  · refine g_tableIn (off := 202) (tgt := 203) dX9_count_1 (by rw [c_1_11]; decide) (by rw [c_1_11]; decide) (by rw [c_1_11]; rfl) (by decide) ?_
    have h := h.2.2.2.2.2.2.2.2.2.2.2.1 c_1_11
    refine g_aload_n dX9_count_203 rfl ?_
    refine g_gfR fl_9_51 rfl hr0 dX9_count_204 ?_
    refine g_gfI fi_9_297 (by decide) dX9_count_207 ?_
    exact g_iret dX9_count_210 rfl rfl ⟨_, rfl, h⟩
  by_cases c_1_12 : x1 = (12 : Int32)
  · refine g_tableIn (off := 210) (tgt := 211) dX9_count_1 (by rw [c_1_12]; decide) (by rw [c_1_12]; decide) (by rw [c_1_12]; rfl) (by decide) ?_
    have h := h.2.2.2.2.2.2.2.2.2.2.2.2.1 c_1_12
    refine g_aload_n dX9_count_211 rfl ?_
    refine g_gfR fl_9_51 rfl hr0 dX9_count_212 ?_
    obtain ⟨hd_46, h⟩ := h
    refine g_cV ca_X9_347 ob_3 (c_X3_firstKnown (d := 0) (Nat.le_refl _) (by decide) ) hd_46 (by decide) (by decide) rfl rfl (by first | exact Nat.le_of_ble_eq_true rfl | decide) dX9_count_215 (kI (fun v_47 μ_48 hq_49 => ?_))
    obtain ⟨ev_47, eμ_48⟩ := hq_49
    subst ev_47
    refine g_mem eμ_48 ?_
    exact g_iret dX9_count_218 rfl rfl ⟨_, rfl, h⟩
  by_cases c_1_13 : x1 = (13 : Int32)
  · refine g_tableIn (off := 218) (tgt := 219) dX9_count_1 (by rw [c_1_13]; decide) (by rw [c_1_13]; decide) (by rw [c_1_13]; rfl) (by decide) ?_
    have h := h.2.2.2.2.2.2.2.2.2.2.2.2.2.1 c_1_13
    refine g_aload_n dX9_count_219 rfl ?_
    refine g_gfR fl_9_58 rfl hr0 dX9_count_220 ?_
    refine g_gfI fi_9_96 (by decide) dX9_count_223 ?_
    exact g_iret dX9_count_226 rfl rfl ⟨_, rfl, h⟩
  have c_1_o : (x1).toInt < 0 ∨ 13 < (x1).toInt := by
    have := lv_neT c_1_0 (a := 0) rfl
    have := lv_neT c_1_1 (a := 1) rfl
    have := lv_neT c_1_2 (a := 2) rfl
    have := lv_neT c_1_3 (a := 3) rfl
    have := lv_neT c_1_4 (a := 4) rfl
    have := lv_neT c_1_5 (a := 5) rfl
    have := lv_neT c_1_6 (a := 6) rfl
    have := lv_neT c_1_7 (a := 7) rfl
    have := lv_neT c_1_8 (a := 8) rfl
    have := lv_neT c_1_9 (a := 9) rfl
    have := lv_neT c_1_10 (a := 10) rfl
    have := lv_neT c_1_11 (a := 11) rfl
    have := lv_neT c_1_12 (a := 12) rfl
    have := lv_neT c_1_13 (a := 13) rfl
    omega
  refine g_tableOut (tgt := 227) dX9_count_1 c_1_o (by decide) ?_
  have h := h.2.2.2.2.2.2.2.2.2.2.2.2.2.2 ⟨c_1_0, c_1_1, c_1_2, c_1_3, c_1_4, c_1_5, c_1_6, c_1_7, c_1_8, c_1_9, c_1_10, c_1_11, c_1_12, c_1_13⟩
  refine g_iconst (-1 : Int32) dX9_count_227 rfl ?_
  exact g_iret dX9_count_228 rfl rfl ⟨_, rfl, h⟩
theorem en_X9_count {l : Launch} {D : gD} {d : Nat} {q : Int32 → gMem → Prop} {r0 : Nat} {x1 : Int32} {μ : gMem} (h : ∀ Γ : gC, pt_X9_count_0 l D d q Γ r0 x1 μ) : Ctr l D d yX9_count cX9_count 2 (some .int) [.ref (D.2.2 9 r0), .int x1] μ (pI q) :=
  Ctr_of rfl (by decide) (Nat.le_of_ble_eq_true rfl) (fun Γ => g_sub [0, 1] rfl (h Γ))
def pt_X9_placeOf_0 (l : Launch) (D : gD) (d : Nat) (q : Int32 → gMem → Prop) (Γ : gC) (x0 : Int32) (k1 : Nat) (i1 : Nat) (x2 : Int32) (μ : gMem) : Prop := G l D RX9 cX9_placeOf 4 (some .int) d (pI q) Γ 0 [(0, .int x0), (1, .ref (D.2.2 k1 i1)), (2, .int x2)] [] μ
def pt_X9_placeOf_1 (l : Launch) (D : gD) (d : Nat) (q : Int32 → gMem → Prop) (Γ : gC) (x0 : Int32) (k1 : Nat) (i1 : Nat) (x2 : Int32) (x3 : Int32) (μ : gMem) : Prop := G l D RX9 cX9_placeOf 4 (some .int) d (pI q) Γ 2 [(0, .int x0), (1, .ref (D.2.2 k1 i1)), (2, .int x2), (3, .int x3)] [] μ
set_option maxRecDepth 20000 in
set_option maxHeartbeats 4000000 in
theorem bl_X9_placeOf_0 {l : Launch} {D : gD} {d : Nat} {q : Int32 → gMem → Prop} {Γ : gC} {x0 : Int32} {k1 : Nat} {i1 : Nat} {x2 : Int32} {μ : gMem} (hk1 : gsh k1 = (1, (gsh k1).2.1, 0)) (hi1 : i1 < gkn k1) (h : ∀ x3_1 : Int32, x3_1 = (0 : Int32) → pt_X9_placeOf_1 l D d q Γ x0 k1 i1 x2 x3_1 μ) : pt_X9_placeOf_0 l D d q Γ x0 k1 i1 x2 μ := by
  unfold pt_X9_placeOf_0
  refine g_iconst (0 : Int32) dX9_placeOf_0 rfl ?_
  refine g_istore_n dX9_placeOf_1 (by decide) (fun x3_1 ex3_1 => g_sub (lv' := [(0, .int x0), (1, .ref (D.2.2 k1 i1)), (2, .int x2), (3, .int x3_1)]) [1, 2, 3, 0] rfl ?_)
  have h := h x3_1 ex3_1
  exact g_sub [0, 1, 2, 3] rfl h
set_option maxRecDepth 20000 in
set_option maxHeartbeats 4000000 in
theorem bl_X9_placeOf_1 {l : Launch} {D : gD} {d : Nat} {q : Int32 → gMem → Prop} {Γ : gC} {x0 : Int32} {k1 : Nat} {i1 : Nat} {x2 : Int32} {x3 : Int32} {μ : gMem} (hk1 : gsh k1 = (1, (gsh k1).2.1, 0)) (hi1 : i1 < gkn k1) (h : ((x2 ≤ x3) → q (-1 : Int32) μ) ∧ ((¬ x2 ≤ x3) → (((nI (gsh k1).2.1) ≤ x3) → q (-1 : Int32) μ) ∧ ((¬ (nI (gsh k1).2.1) ≤ x3) → ∃ j_3 : Nat, j_3 < (gsh k1).2.1 ∧ (gsh k1).2.1 < 2 ^ 31 ∧ x3 = nI j_3 ∧ (((¬ (μ.1 k1 i1 j_3) = x0) → ∀ x3_6 : Int32, x3_6 = x3 + (1 : Int32) → pt_X9_placeOf_1 l D d q Γ x0 k1 i1 x2 x3_6 μ) ∧ (((μ.1 k1 i1 j_3) = x0) → q x3 μ))))) : pt_X9_placeOf_1 l D d q Γ x0 k1 i1 x2 x3 μ := by
  unfold pt_X9_placeOf_1
  refine g_iload_n dX9_placeOf_2 rfl ?_
  refine g_iload_n dX9_placeOf_3 rfl ?_
  refine g_icmp_ge (tgt := 28) dX9_placeOf_4 (by decide) (fun c_1 => ?_) (fun c_1 => ?_)
  · have h := h.1 c_1
    refine g_iconst (-1 : Int32) dX9_placeOf_28 rfl ?_
    exact g_iret dX9_placeOf_29 rfl rfl ⟨_, rfl, h⟩
  · have h := h.2 c_1
    refine g_iload_n dX9_placeOf_7 rfl ?_
    refine g_aload_n dX9_placeOf_8 rfl ?_
    refine g_alen hi1 hk1 (Or.inl rfl) dX9_placeOf_9 ?_
    refine g_icmp_ge (tgt := 28) dX9_placeOf_10 (by decide) (fun c_2 => ?_) (fun c_2 => ?_)
    · have h := h.1 c_2
      refine g_iconst (-1 : Int32) dX9_placeOf_28 rfl ?_
      exact g_iret dX9_placeOf_29 rfl rfl ⟨_, rfl, h⟩
    · have h := h.2 c_2
      refine g_aload_n dX9_placeOf_13 rfl ?_
      refine g_iload_n dX9_placeOf_14 rfl ?_
      obtain ⟨j_3, hj_3, hn_4, ej_3, h⟩ := h
      refine g_iald j_3 hi1 hk1 hj_3 hn_4 ej_3 dX9_placeOf_15 ?_
      refine g_iload_n dX9_placeOf_16 rfl ?_
      refine g_icmp_ne (tgt := 22) dX9_placeOf_17 (by decide) (fun c_5 => ?_) (fun c_5 => ?_)
      · have h := h.1 c_5
        refine g_iinc dX9_placeOf_22 rfl (by decide) (fun x3_6 ex3_6 => g_sub (lv' := [(0, .int x0), (1, .ref (D.2.2 k1 i1)), (2, .int x2), (3, .int x3_6)]) [1, 2, 3, 0] rfl ?_)
        have h := h x3_6 ex3_6
        refine g_goto (tgt := 2) dX9_placeOf_25 (by decide) ?_
        exact g_sub [0, 1, 2, 3] rfl h
      · have h := h.2 c_5
        refine g_iload_n dX9_placeOf_20 rfl ?_
        exact g_iret dX9_placeOf_21 rfl rfl ⟨_, rfl, h⟩
theorem en_X9_placeOf {l : Launch} {D : gD} {d : Nat} {q : Int32 → gMem → Prop} {x0 : Int32} {k1 : Nat} {i1 : Nat} {x2 : Int32} {μ : gMem} (h : ∀ Γ : gC, pt_X9_placeOf_0 l D d q Γ x0 k1 i1 x2 μ) : Ctr l D d yX9_placeOf cX9_placeOf 4 (some .int) [.int x0, .ref (D.2.2 k1 i1), .int x2] μ (pI q) :=
  Ctr_of rfl (by decide) (Nat.le_of_ble_eq_true rfl) (fun Γ => g_sub [0, 1, 2] rfl (h Γ))
def pt_X9_commonDivisor_0 (l : Launch) (D : gD) (d : Nat) (q : Int32 → gMem → Prop) (Γ : gC) (x0 : Int32) (x1 : Int32) (μ : gMem) : Prop := G l D RX9 cX9_commonDivisor 6 (some .int) d (pI q) Γ 0 [(0, .int x0), (1, .int x1)] [] μ
def pt_X9_commonDivisor_1 (l : Launch) (D : gD) (d : Nat) (q : Int32 → gMem → Prop) (Γ : gC) (x2 : Int32) (x3 : Int32) (x4 : Int32) (μ : gMem) : Prop := G l D RX9 cX9_commonDivisor 6 (some .int) d (pI q) Γ 7 [(2, .int x2), (3, .int x3), (4, .int x4)] [] μ
set_option maxRecDepth 20000 in
set_option maxHeartbeats 4000000 in
theorem bl_X9_commonDivisor_0 {l : Launch} {D : gD} {d : Nat} {q : Int32 → gMem → Prop} {Γ : gC} {x0 : Int32} {x1 : Int32} {μ : gMem}  (h : ∀ x2_1 : Int32, x2_1 = x0 → ∀ x3_2 : Int32, x3_2 = x1 → ∀ x4_3 : Int32, x4_3 = (0 : Int32) → pt_X9_commonDivisor_1 l D d q Γ x2_1 x3_2 x4_3 μ) : pt_X9_commonDivisor_0 l D d q Γ x0 x1 μ := by
  unfold pt_X9_commonDivisor_0
  refine g_iload_n dX9_commonDivisor_0 rfl ?_
  refine g_istore_n dX9_commonDivisor_1 (by decide) (fun x2_1 ex2_1 => g_sub (lv' := [(1, .int x1), (2, .int x2_1)]) [2, 0] rfl ?_)
  have h := h x2_1 ex2_1
  refine g_iload_n dX9_commonDivisor_2 rfl ?_
  refine g_istore_n dX9_commonDivisor_3 (by decide) (fun x3_2 ex3_2 => g_sub (lv' := [(2, .int x2_1), (3, .int x3_2)]) [2, 0] rfl ?_)
  have h := h x3_2 ex3_2
  refine g_iconst (0 : Int32) dX9_commonDivisor_4 rfl ?_
  refine g_istore dX9_commonDivisor_5 (by decide) (fun x4_3 ex4_3 => g_sub (lv' := [(2, .int x2_1), (3, .int x3_2), (4, .int x4_3)]) [1, 2, 0] rfl ?_)
  have h := h x4_3 ex4_3
  exact g_sub [0, 1, 2] rfl h
set_option maxRecDepth 20000 in
set_option maxHeartbeats 4000000 in
theorem bl_X9_commonDivisor_1 {l : Launch} {D : gD} {d : Nat} {q : Int32 → gMem → Prop} {Γ : gC} {x2 : Int32} {x3 : Int32} {x4 : Int32} {μ : gMem}  (h : (((64 : Int32) ≤ x4) → q x2 μ) ∧ ((¬ (64 : Int32) ≤ x4) → ((x3 = 0) → q x2 μ) ∧ ((¬ x3 = 0) → (¬ x3 = 0) ∧ (∀ x5_4 : Int32, x5_4 = x2 - x2 / x3 * x3 → ∀ x2_5 : Int32, x2_5 = x3 → ∀ x3_6 : Int32, x3_6 = x5_4 → ∀ x4_7 : Int32, x4_7 = x4 + (1 : Int32) → pt_X9_commonDivisor_1 l D d q Γ x2_5 x3_6 x4_7 μ)))) : pt_X9_commonDivisor_1 l D d q Γ x2 x3 x4 μ := by
  unfold pt_X9_commonDivisor_1
  refine g_iload dX9_commonDivisor_7 rfl ?_
  refine g_bipush (64 : Int32) dX9_commonDivisor_9 rfl ?_
  refine g_icmp_ge (tgt := 34) dX9_commonDivisor_11 (by decide) (fun c_1 => ?_) (fun c_1 => ?_)
  · have h := h.1 c_1
    refine g_iload_n dX9_commonDivisor_34 rfl ?_
    exact g_iret dX9_commonDivisor_35 rfl rfl ⟨_, rfl, h⟩
  · have h := h.2 c_1
    refine g_iload_n dX9_commonDivisor_14 rfl ?_
    refine g_if_eq (tgt := 34) dX9_commonDivisor_15 (by decide) (fun c_2 => ?_) (fun c_2 => ?_)
    · have h := h.1 c_2
      refine g_iload_n dX9_commonDivisor_34 rfl ?_
      exact g_iret dX9_commonDivisor_35 rfl rfl ⟨_, rfl, h⟩
    · have h := h.2 c_2
      refine g_iload_n dX9_commonDivisor_18 rfl ?_
      refine g_iload_n dX9_commonDivisor_19 rfl ?_
      obtain ⟨nz_3, h⟩ := h
      refine g_irem dX9_commonDivisor_20 nz_3 ?_
      refine g_istore dX9_commonDivisor_21 (by decide) (fun x5_4 ex5_4 => g_sub (lv' := [(3, .int x3), (4, .int x4), (5, .int x5_4)]) [2, 3, 0] rfl ?_)
      have h := h x5_4 ex5_4
      refine g_iload_n dX9_commonDivisor_23 rfl ?_
      refine g_istore_n dX9_commonDivisor_24 (by decide) (fun x2_5 ex2_5 => g_sub (lv' := [(2, .int x2_5), (4, .int x4), (5, .int x5_4)]) [0, 2, 3] rfl ?_)
      have h := h x2_5 ex2_5
      refine g_iload dX9_commonDivisor_25 rfl ?_
      refine g_istore_n dX9_commonDivisor_27 (by decide) (fun x3_6 ex3_6 => g_sub (lv' := [(2, .int x2_5), (3, .int x3_6), (4, .int x4)]) [1, 0, 2] rfl ?_)
      have h := h x3_6 ex3_6
      refine g_iinc dX9_commonDivisor_28 rfl (by decide) (fun x4_7 ex4_7 => g_sub (lv' := [(2, .int x2_5), (3, .int x3_6), (4, .int x4_7)]) [1, 2, 0] rfl ?_)
      have h := h x4_7 ex4_7
      refine g_goto (tgt := 7) dX9_commonDivisor_31 (by decide) ?_
      exact g_sub [0, 1, 2] rfl h
theorem en_X9_commonDivisor {l : Launch} {D : gD} {d : Nat} {q : Int32 → gMem → Prop} {x0 : Int32} {x1 : Int32} {μ : gMem} (h : ∀ Γ : gC, pt_X9_commonDivisor_0 l D d q Γ x0 x1 μ) : Ctr l D d yX9_commonDivisor cX9_commonDivisor 6 (some .int) [.int x0, .int x1] μ (pI q) :=
  Ctr_of rfl (by decide) (Nat.le_of_ble_eq_true rfl) (fun Γ => g_sub [0, 1] rfl (h Γ))
def pt_X9_lookAhead_0 (l : Launch) (D : gD) (d : Nat) (q : Nat → gMem → Prop) (Γ : gC) (r0 : Nat) (x1 : Int32) (μ : gMem) : Prop := G l D RX9 cX9_lookAhead 2 (some (.object "WristGoal$Person")) d (pR D 4 q) Γ 0 [(0, .ref (D.2.2 9 r0)), (1, .int x1)] [] μ
def pt_X9_lookAhead_1 (l : Launch) (D : gD) (d : Nat) (q : Nat → gMem → Prop) (Γ : gC) (r0 : Nat) (x1 : Int32) (rs0 : Nat) (xs1 : Int32) (μ : gMem) : Prop := G l D RX9 cX9_lookAhead 2 (some (.object "WristGoal$Person")) d (pR D 4 q) Γ 33 [(0, .ref (D.2.2 9 r0)), (1, .int x1)] [.int xs1, .ref (D.2.2 8 rs0)] μ
set_option maxRecDepth 20000 in
set_option maxHeartbeats 4000000 in
theorem bl_X9_lookAhead_0 {l : Launch} {D : gD} {d : Nat} {q : Nat → gMem → Prop} {Γ : gC} {r0 : Nat} {x1 : Int32} {μ : gMem} (hr0 : r0 < 1) (h : ∃ (d_1 : Nat) (q_2 : gMem → Prop), d_1 < d ∧ Ctr l D d_1 yX8_copyFrom cX8_copyFrom 3 none [.ref (D.2.2 8 2), .ref (D.2.2 8 0)] μ (pV q_2) ∧ ∀ (μ_5 : gMem), q_2 μ_5 → (μ_5.2.2 0 < 2) ∧ ((0 < d) ∧ (μ_5.1 2 (μ_5.2.2 0) 8 = 0 ∨ μ_5.1 2 (μ_5.2.2 0) 8 = 1) ∧ ((((μ_5.1 2 (μ_5.2.2 0) 8) = 0) → pt_X9_lookAhead_1 l D d q Γ r0 x1 2 x1 μ_5) ∧ ((¬ (μ_5.1 2 (μ_5.2.2 0) 8) = 0) → pt_X9_lookAhead_1 l D d q Γ r0 x1 2 (-1 : Int32) μ_5)))) : pt_X9_lookAhead_0 l D d q Γ r0 x1 μ := by
  unfold pt_X9_lookAhead_0
  refine g_aload_n dX9_lookAhead_0 rfl ?_
  refine g_gfR fl_9_45 rfl hr0 dX9_lookAhead_1 ?_
  refine g_aload_n dX9_lookAhead_4 rfl ?_
  refine g_gfR fl_9_38 rfl hr0 dX9_lookAhead_5 ?_
  obtain ⟨d_1, q_2, hd_3, hc_4, h⟩ := h
  refine g_cV ca_X9_335 ob_8 hc_4 hd_3 (by decide) (by decide) rfl rfl (by first | exact Nat.le_of_ble_eq_true rfl | decide) dX9_lookAhead_8 (kV (fun μ_5 hq_7 => ?_))
  have h := h μ_5 hq_7
  refine g_aload_n dX9_lookAhead_11 rfl ?_
  refine g_gfR fl_9_45 rfl hr0 dX9_lookAhead_12 ?_
  refine g_aload_n dX9_lookAhead_15 rfl ?_
  obtain ⟨hR_8, h⟩ := h
  refine g_gfR fl_9_28 rfl hr0 dX9_lookAhead_16 ?_
  refine g_gfR fl_9_198 rfl hR_8 dX9_lookAhead_19 ?_
  obtain ⟨hd_9, hs_10, h⟩ := h
  refine g_cV ca_X9_274 ob_2 (c_X2_mindsOthers (d := 0) (Nat.le_refl _) hR_8 hs_10 ) hd_9 (by decide) hR_8 rfl rfl (by first | exact Nat.le_of_ble_eq_true rfl | decide) dX9_lookAhead_22 (kI (fun v_11 μ_12 hq_13 => ?_))
  obtain ⟨ev_11, eμ_12⟩ := hq_13
  subst ev_11
  refine g_mem eμ_12 ?_
  refine g_if_eq (tgt := 32) dX9_lookAhead_25 (by decide) (fun c_14 => ?_) (fun c_14 => ?_)
  · have h := h.1 c_14
    refine g_iload_n dX9_lookAhead_32 rfl ?_
    exact g_sub [0, 1] rfl h
  · have h := h.2 c_14
    refine g_iconst (-1 : Int32) dX9_lookAhead_28 rfl ?_
    refine g_goto (tgt := 33) dX9_lookAhead_29 (by decide) ?_
    exact g_sub [0, 1] rfl h
set_option maxRecDepth 20000 in
set_option maxHeartbeats 4000000 in
theorem bl_X9_lookAhead_1 {l : Launch} {D : gD} {d : Nat} {q : Nat → gMem → Prop} {Γ : gC} {r0 : Nat} {x1 : Int32} {rs0 : Nat} {xs1 : Int32} {μ : gMem} (hr0 : r0 < 1) (hrs0 : rs0 < 3) (h : ∀ μ_1 : gMem, μ_1 = gsI μ 8 rs0 6 xs1 → ∃ j_2 : Nat, j_2 < 5 ∧ x1 = nI j_2 ∧ (q (5 * 2 + j_2) μ_1)) : pt_X9_lookAhead_1 l D d q Γ r0 x1 rs0 xs1 μ := by
  unfold pt_X9_lookAhead_1
  refine g_pfI fi_9_350 hrs0 rfl rfl dX9_lookAhead_33 ?_
  obtain ⟨μ_1, eμ_1⟩ : ∃ z : gMem, z = gsI μ 8 rs0 6 xs1 := ⟨_, rfl⟩
  have h := h μ_1 eμ_1
  refine g_mem eμ_1.symm ?_
  refine g_aload_n dX9_lookAhead_36 rfl ?_
  refine g_gfR fl_9_45 rfl hr0 dX9_lookAhead_37 ?_
  refine g_gfR fl_9_132 rfl (by decide) dX9_lookAhead_40 ?_
  refine g_iload_n dX9_lookAhead_43 rfl ?_
  obtain ⟨j_2, hj_2, ej_2, h⟩ := h
  refine g_aald j_2 (by decide) hj_2 ej_2 dX9_lookAhead_44 ?_
  have hp_3 : 5 * 2 + j_2 < 15 := by have : 2 < 3 := (by decide); omega
  exact g_aret dX9_lookAhead_45 rfl ⟨(5 * 2 + j_2), hp_3, rfl, h⟩
theorem en_X9_lookAhead {l : Launch} {D : gD} {d : Nat} {q : Nat → gMem → Prop} {r0 : Nat} {x1 : Int32} {μ : gMem} (h : ∀ Γ : gC, pt_X9_lookAhead_0 l D d q Γ r0 x1 μ) : Ctr l D d yX9_lookAhead cX9_lookAhead 2 (some (.object "WristGoal$Person")) [.ref (D.2.2 9 r0), .int x1] μ (pR D 4 q) :=
  Ctr_of rfl (by decide) (Nat.le_of_ble_eq_true rfl) (fun Γ => g_sub [0, 1] rfl (h Γ))
def pt_X9_lookAtAll_0 (l : Launch) (D : gD) (d : Nat) (q : gMem → Prop) (Γ : gC) (r0 : Nat) (μ : gMem) : Prop := G l D RX9 cX9_lookAtAll 1 none d (pV q) Γ 0 [(0, .ref (D.2.2 9 r0))] [] μ
set_option maxRecDepth 20000 in
set_option maxHeartbeats 4000000 in
theorem bl_X9_lookAtAll_0 {l : Launch} {D : gD} {d : Nat} {q : gMem → Prop} {Γ : gC} {r0 : Nat} {μ : gMem} (hr0 : r0 < 1) (h : ∃ (d_1 : Nat) (q_2 : gMem → Prop), d_1 < d ∧ Ctr l D d_1 yX8_copyFrom cX8_copyFrom 3 none [.ref (D.2.2 8 2), .ref (D.2.2 8 0)] μ (pV q_2) ∧ ∀ (μ_5 : gMem), q_2 μ_5 → q μ_5) : pt_X9_lookAtAll_0 l D d q Γ r0 μ := by
  unfold pt_X9_lookAtAll_0
  refine g_aload_n dX9_lookAtAll_0 rfl ?_
  refine g_gfR fl_9_45 rfl hr0 dX9_lookAtAll_1 ?_
  refine g_aload_n dX9_lookAtAll_4 rfl ?_
  refine g_gfR fl_9_38 rfl hr0 dX9_lookAtAll_5 ?_
  obtain ⟨d_1, q_2, hd_3, hc_4, h⟩ := h
  refine g_cV ca_X9_335 ob_8 hc_4 hd_3 (by decide) (by decide) rfl rfl (by first | exact Nat.le_of_ble_eq_true rfl | decide) dX9_lookAtAll_8 (kV (fun μ_5 hq_7 => ?_))
  have h := h μ_5 hq_7
  exact g_vret dX9_lookAtAll_11 rfl ⟨rfl, h⟩
theorem en_X9_lookAtAll {l : Launch} {D : gD} {d : Nat} {q : gMem → Prop} {r0 : Nat} {μ : gMem} (h : ∀ Γ : gC, pt_X9_lookAtAll_0 l D d q Γ r0 μ) : Ctr l D d yX9_lookAtAll cX9_lookAtAll 1 none [.ref (D.2.2 9 r0)] μ (pV q) :=
  Ctr_of rfl (by decide) (Nat.le_of_ble_eq_true rfl) (fun Γ => g_sub [0] rfl (h Γ))
def pt_X9_passAsItGoes_0 (l : Launch) (D : gD) (d : Nat) (q : gMem → Prop) (Γ : gC) (r0 : Nat) (x1 : Int32) (μ : gMem) : Prop := G l D RX9 cX9_passAsItGoes 4 none d (pV q) Γ 0 [(0, .ref (D.2.2 9 r0)), (1, .int x1)] [] μ
def pt_X9_passAsItGoes_1 (l : Launch) (D : gD) (d : Nat) (q : gMem → Prop) (Γ : gC) (r0 : Nat) (x1 : Int32) (x2 : Int32) (x3 : Int32) (μ : gMem) : Prop := G l D RX9 cX9_passAsItGoes 4 none d (pV q) Γ 7 [(0, .ref (D.2.2 9 r0)), (1, .int x1), (2, .int x2), (3, .int x3)] [] μ
set_option maxRecDepth 20000 in
set_option maxHeartbeats 4000000 in
theorem bl_X9_passAsItGoes_0 {l : Launch} {D : gD} {d : Nat} {q : gMem → Prop} {Γ : gC} {r0 : Nat} {x1 : Int32} {μ : gMem} (hr0 : r0 < 1) (h : (0 < d) ∧ (μ.2.2 0 < 2) ∧ (∀ x2_6 : Int32, x2_6 = bI (¬ μ.1 7 (μ.2.2 0) 16 < (50 : Int32)) → ∀ x3_7 : Int32, x3_7 = (0 : Int32) → pt_X9_passAsItGoes_1 l D d q Γ r0 x1 x2_6 x3_7 μ)) : pt_X9_passAsItGoes_0 l D d q Γ r0 x1 μ := by
  unfold pt_X9_passAsItGoes_0
  refine g_aload_n dX9_passAsItGoes_0 rfl ?_
  obtain ⟨hd_1, hs_2, h⟩ := h
  refine g_cV ca_X9_313 ob_9 (c_X9_isWetAsItGoes (d := 0) (Nat.le_refl _) hr0 hs_2 ) hd_1 (by decide) hr0 rfl rfl (by first | exact Nat.le_of_ble_eq_true rfl | decide) dX9_passAsItGoes_1 (kI (fun v_3 μ_4 hq_5 => ?_))
  obtain ⟨ev_3, eμ_4⟩ := hq_5
  subst ev_3
  refine g_mem eμ_4 ?_
  refine g_istore_n dX9_passAsItGoes_4 (by decide) (fun x2_6 ex2_6 => g_sub (lv' := [(0, .ref (D.2.2 9 r0)), (1, .int x1), (2, .int x2_6)]) [1, 2, 0] rfl ?_)
  have h := h x2_6 ex2_6
  refine g_iconst (0 : Int32) dX9_passAsItGoes_5 rfl ?_
  refine g_istore_n dX9_passAsItGoes_6 (by decide) (fun x3_7 ex3_7 => g_sub (lv' := [(0, .ref (D.2.2 9 r0)), (1, .int x1), (2, .int x2_6), (3, .int x3_7)]) [1, 2, 3, 0] rfl ?_)
  have h := h x3_7 ex3_7
  exact g_sub [0, 1, 2, 3] rfl h
set_option maxRecDepth 20000 in
set_option maxHeartbeats 4000000 in
theorem bl_X9_passAsItGoes_1 {l : Launch} {D : gD} {d : Nat} {q : gMem → Prop} {Γ : gC} {r0 : Nat} {x1 : Int32} {x2 : Int32} {x3 : Int32} {μ : gMem} (hr0 : r0 < 1) (h : ((x1 ≤ x3) → q μ) ∧ ((¬ x1 ≤ x3) → (μ.2.2 0 < 2) ∧ (∃ (d_3 : Nat) (q_4 : gMem → Prop), d_3 < d ∧ Ctr l D d_3 yX8_passDay cX8_passDay 4 none [.ref (D.2.2 8 2), .ref (D.2.2 7 (μ.2.2 0)), .int x2] μ (pV q_4) ∧ ∀ (μ_7 : gMem), q_4 μ_7 → ∀ x3_10 : Int32, x3_10 = x3 + (1 : Int32) → pt_X9_passAsItGoes_1 l D d q Γ r0 x1 x2 x3_10 μ_7))) : pt_X9_passAsItGoes_1 l D d q Γ r0 x1 x2 x3 μ := by
  unfold pt_X9_passAsItGoes_1
  refine g_iload_n dX9_passAsItGoes_7 rfl ?_
  refine g_iload_n dX9_passAsItGoes_8 rfl ?_
  refine g_icmp_ge (tgt := 30) dX9_passAsItGoes_9 (by decide) (fun c_1 => ?_) (fun c_1 => ?_)
  · have h := h.1 c_1
    exact g_vret dX9_passAsItGoes_30 rfl ⟨rfl, h⟩
  · have h := h.2 c_1
    refine g_aload_n dX9_passAsItGoes_12 rfl ?_
    refine g_gfR fl_9_45 rfl hr0 dX9_passAsItGoes_13 ?_
    refine g_aload_n dX9_passAsItGoes_16 rfl ?_
    obtain ⟨hR_2, h⟩ := h
    refine g_gfR fl_9_28 rfl hr0 dX9_passAsItGoes_17 ?_
    refine g_iload_n dX9_passAsItGoes_20 rfl ?_
    obtain ⟨d_3, q_4, hd_5, hc_6, h⟩ := h
    refine g_cV ca_X9_239 ob_8 hc_6 hd_5 (by decide) (by decide) rfl rfl (by first | exact Nat.le_of_ble_eq_true rfl | decide) dX9_passAsItGoes_21 (kV (fun μ_7 hq_9 => ?_))
    have h := h μ_7 hq_9
    refine g_iinc dX9_passAsItGoes_24 rfl (by decide) (fun x3_10 ex3_10 => g_sub (lv' := [(0, .ref (D.2.2 9 r0)), (1, .int x1), (2, .int x2), (3, .int x3_10)]) [1, 2, 3, 0] rfl ?_)
    have h := h x3_10 ex3_10
    refine g_goto (tgt := 7) dX9_passAsItGoes_27 (by decide) ?_
    exact g_sub [0, 1, 2, 3] rfl h
theorem en_X9_passAsItGoes {l : Launch} {D : gD} {d : Nat} {q : gMem → Prop} {r0 : Nat} {x1 : Int32} {μ : gMem} (h : ∀ Γ : gC, pt_X9_passAsItGoes_0 l D d q Γ r0 x1 μ) : Ctr l D d yX9_passAsItGoes cX9_passAsItGoes 4 none [.ref (D.2.2 9 r0), .int x1] μ (pV q) :=
  Ctr_of rfl (by decide) (Nat.le_of_ble_eq_true rfl) (fun Γ => g_sub [0, 1] rfl (h Γ))
def pt_X9_daysToPot_0 (l : Launch) (D : gD) (d : Nat) (q : Int32 → gMem → Prop) (Γ : gC) (r0 : Nat) (μ : gMem) : Prop := G l D RX9 cX9_daysToPot 1 (some .int) d (pI q) Γ 0 [(0, .ref (D.2.2 9 r0))] [] μ
set_option maxRecDepth 20000 in
set_option maxHeartbeats 4000000 in
theorem bl_X9_daysToPot_0 {l : Launch} {D : gD} {d : Nat} {q : Int32 → gMem → Prop} {Γ : gC} {r0 : Nat} {μ : gMem} (hr0 : r0 < 1) (h : (μ.2.2 0 < 2) ∧ ((((μ.1 7 (μ.2.2 0) 13) ≤ 0) → q (1 : Int32) μ) ∧ ((¬ (μ.1 7 (μ.2.2 0) 13) ≤ 0) → (μ.2.2 0 < 2) ∧ ((μ.2.2 0 < 2) ∧ ((¬ μ.1 7 (μ.2.2 0) 13 = 0) ∧ (q ((μ.1 7 (μ.2.2 0) 13) - ((μ.1 8 0 1) - (μ.1 8 0 1) / (μ.1 7 (μ.2.2 0) 13) * (μ.1 7 (μ.2.2 0) 13))) μ)))))) : pt_X9_daysToPot_0 l D d q Γ r0 μ := by
  unfold pt_X9_daysToPot_0
  refine g_aload_n dX9_daysToPot_0 rfl ?_
  obtain ⟨hR_1, h⟩ := h
  refine g_gfR fl_9_28 rfl hr0 dX9_daysToPot_1 ?_
  refine g_gfI fi_9_353 hR_1 dX9_daysToPot_4 ?_
  refine g_if_le (tgt := 36) dX9_daysToPot_7 (by decide) (fun c_2 => ?_) (fun c_2 => ?_)
  · have h := h.1 c_2
    refine g_iconst (1 : Int32) dX9_daysToPot_36 rfl ?_
    exact g_iret dX9_daysToPot_37 rfl rfl ⟨_, rfl, h⟩
  · have h := h.2 c_2
    refine g_aload_n dX9_daysToPot_10 rfl ?_
    obtain ⟨hR_3, h⟩ := h
    refine g_gfR fl_9_28 rfl hr0 dX9_daysToPot_11 ?_
    refine g_gfI fi_9_353 hR_3 dX9_daysToPot_14 ?_
    refine g_aload_n dX9_daysToPot_17 rfl ?_
    refine g_gfR fl_9_38 rfl hr0 dX9_daysToPot_18 ?_
    refine g_gfI fi_9_230 (by decide) dX9_daysToPot_21 ?_
    refine g_aload_n dX9_daysToPot_24 rfl ?_
    obtain ⟨hR_4, h⟩ := h
    refine g_gfR fl_9_28 rfl hr0 dX9_daysToPot_25 ?_
    refine g_gfI fi_9_353 hR_4 dX9_daysToPot_28 ?_
    obtain ⟨nz_5, h⟩ := h
    refine g_irem dX9_daysToPot_31 nz_5 ?_
    refine g_isub dX9_daysToPot_32 ?_
    refine g_goto (tgt := 37) dX9_daysToPot_33 (by decide) ?_
    exact g_iret dX9_daysToPot_37 rfl rfl ⟨_, rfl, h⟩
theorem en_X9_daysToPot {l : Launch} {D : gD} {d : Nat} {q : Int32 → gMem → Prop} {r0 : Nat} {μ : gMem} (h : ∀ Γ : gC, pt_X9_daysToPot_0 l D d q Γ r0 μ) : Ctr l D d yX9_daysToPot cX9_daysToPot 1 (some .int) [.ref (D.2.2 9 r0)] μ (pI q) :=
  Ctr_of rfl (by decide) (Nat.le_of_ble_eq_true rfl) (fun Γ => g_sub [0] rfl (h Γ))
def pt_X9_winsWith_0 (l : Launch) (D : gD) (d : Nat) (q : Int32 → gMem → Prop) (Γ : gC) (r0 : Nat) (x1 : Int32) (x2 : Int32) (μ : gMem) : Prop := G l D RX9 cX9_winsWith 6 (some .boolean) d (pI q) Γ 0 [(0, .ref (D.2.2 9 r0)), (1, .int x1), (2, .int x2)] [] μ
def pt_X9_winsWith_1 (l : Launch) (D : gD) (d : Nat) (q : Int32 → gMem → Prop) (Γ : gC) (r0 : Nat) (x1 : Int32) (x3 : Int32) (x4 : Int32) (x5 : Int32) (μ : gMem) : Prop := G l D RX9 cX9_winsWith 6 (some .boolean) d (pI q) Γ 36 [(0, .ref (D.2.2 9 r0)), (1, .int x1), (3, .int x3), (4, .int x4), (5, .int x5)] [] μ
set_option maxRecDepth 20000 in
set_option maxHeartbeats 4000000 in
theorem bl_X9_winsWith_0 {l : Launch} {D : gD} {d : Nat} {q : Int32 → gMem → Prop} {Γ : gC} {r0 : Nat} {x1 : Int32} {x2 : Int32} {μ : gMem} (hr0 : r0 < 1) (h : ∃ (d_1 : Nat) (q_2 : gMem → Prop), d_1 < d ∧ Ctr l D d_1 yX9_lookAtAll cX9_lookAtAll 1 none [.ref (D.2.2 9 r0)] μ (pV q_2) ∧ ∀ (μ_5 : gMem), q_2 μ_5 → ∃ j_8 : Nat, j_8 < 5 ∧ x1 = nI j_8 ∧ (∀ μ_10 : gMem, μ_10 = gsI μ_5 4 (5 * 2 + j_8) 4 ((μ_5.1 4 (5 * 2 + j_8) 4) + x2) → (0 < d) ∧ (μ_10.2.2 0 < 2) ∧ (∀ x3_16 : Int32, x3_16 = bI (¬ μ_10.1 7 (μ_10.2.2 0) 16 < (50 : Int32)) → ∃ (d_17 : Nat) (q_18 : Int32 → gMem → Prop), d_17 < d ∧ Ctr l D d_17 yX9_daysToPot cX9_daysToPot 1 (some .int) [.ref (D.2.2 9 r0)] μ_10 (pI q_18) ∧ ∀ (v_22 : Int32) (μ_21 : gMem), q_18 v_22 μ_21 → ∀ x4_24 : Int32, x4_24 = v_22 → ∀ x5_25 : Int32, x5_25 = (0 : Int32) → pt_X9_winsWith_1 l D d q Γ r0 x1 x3_16 x4_24 x5_25 μ_21))) : pt_X9_winsWith_0 l D d q Γ r0 x1 x2 μ := by
  unfold pt_X9_winsWith_0
  refine g_aload_n dX9_winsWith_0 rfl ?_
  obtain ⟨d_1, q_2, hd_3, hc_4, h⟩ := h
  refine g_cV ca_X9_268 ob_9 hc_4 hd_3 (by decide) hr0 rfl rfl (by first | exact Nat.le_of_ble_eq_true rfl | decide) dX9_winsWith_1 (kV (fun μ_5 hq_7 => ?_))
  have h := h μ_5 hq_7
  refine g_aload_n dX9_winsWith_4 rfl ?_
  refine g_gfR fl_9_45 rfl hr0 dX9_winsWith_5 ?_
  refine g_gfR fl_9_132 rfl (by decide) dX9_winsWith_8 ?_
  refine g_iload_n dX9_winsWith_11 rfl ?_
  obtain ⟨j_8, hj_8, ej_8, h⟩ := h
  refine g_aald j_8 (by decide) hj_8 ej_8 dX9_winsWith_12 ?_
  have hp_9 : 5 * 2 + j_8 < 15 := by have : 2 < 3 := (by decide); omega
  refine g_dup dX9_winsWith_13 rfl ?_
  refine g_gfI fi_9_153 hp_9 dX9_winsWith_14 ?_
  refine g_iload_n dX9_winsWith_17 rfl ?_
  refine g_iadd dX9_winsWith_18 ?_
  refine g_pfI fi_9_153 hp_9 rfl rfl dX9_winsWith_19 ?_
  obtain ⟨μ_10, eμ_10⟩ : ∃ z : gMem, z = gsI μ_5 4 (5 * 2 + j_8) 4 ((μ_5.1 4 (5 * 2 + j_8) 4) + x2) := ⟨_, rfl⟩
  have h := h μ_10 eμ_10
  refine g_mem eμ_10.symm ?_
  refine g_aload_n dX9_winsWith_22 rfl ?_
  obtain ⟨hd_11, hs_12, h⟩ := h
  refine g_cV ca_X9_313 ob_9 (c_X9_isWetAsItGoes (d := 0) (Nat.le_refl _) hr0 hs_12 ) hd_11 (by decide) hr0 rfl rfl (by first | exact Nat.le_of_ble_eq_true rfl | decide) dX9_winsWith_23 (kI (fun v_13 μ_14 hq_15 => ?_))
  obtain ⟨ev_13, eμ_14⟩ := hq_15
  subst ev_13
  refine g_mem eμ_14 ?_
  refine g_istore_n dX9_winsWith_26 (by decide) (fun x3_16 ex3_16 => g_sub (lv' := [(0, .ref (D.2.2 9 r0)), (1, .int x1), (3, .int x3_16)]) [1, 2, 0] rfl ?_)
  have h := h x3_16 ex3_16
  refine g_aload_n dX9_winsWith_27 rfl ?_
  obtain ⟨d_17, q_18, hd_19, hc_20, h⟩ := h
  refine g_cV ca_X9_264 ob_9 hc_20 hd_19 (by decide) hr0 rfl rfl (by first | exact Nat.le_of_ble_eq_true rfl | decide) dX9_winsWith_28 (kI (fun v_22 μ_21 hq_23 => ?_))
  have h := h v_22 μ_21 hq_23
  refine g_istore dX9_winsWith_31 (by decide) (fun x4_24 ex4_24 => g_sub (lv' := [(0, .ref (D.2.2 9 r0)), (1, .int x1), (3, .int x3_16), (4, .int x4_24)]) [1, 2, 3, 0] rfl ?_)
  have h := h x4_24 ex4_24
  refine g_iconst (0 : Int32) dX9_winsWith_33 rfl ?_
  refine g_istore dX9_winsWith_34 (by decide) (fun x5_25 ex5_25 => g_sub (lv' := [(0, .ref (D.2.2 9 r0)), (1, .int x1), (3, .int x3_16), (4, .int x4_24), (5, .int x5_25)]) [1, 2, 3, 4, 0] rfl ?_)
  have h := h x5_25 ex5_25
  exact g_sub [0, 1, 2, 3, 4] rfl h
set_option maxRecDepth 20000 in
set_option maxHeartbeats 4000000 in
theorem bl_X9_winsWith_1 {l : Launch} {D : gD} {d : Nat} {q : Int32 → gMem → Prop} {Γ : gC} {r0 : Nat} {x1 : Int32} {x3 : Int32} {x4 : Int32} {x5 : Int32} {μ : gMem} (hr0 : r0 < 1) (h : ((x4 ≤ x5) → ((¬ (μ.1 8 2 4) = x1) → q (0 : Int32) μ) ∧ (((μ.1 8 2 4) = x1) → q (1 : Int32) μ)) ∧ ((¬ x4 ≤ x5) → (μ.2.2 0 < 2) ∧ (∃ (d_4 : Nat) (q_5 : gMem → Prop), d_4 < d ∧ Ctr l D d_4 yX8_passDay cX8_passDay 4 none [.ref (D.2.2 8 2), .ref (D.2.2 7 (μ.2.2 0)), .int x3] μ (pV q_5) ∧ ∀ (μ_8 : gMem), q_5 μ_8 → ∀ x5_11 : Int32, x5_11 = x5 + (1 : Int32) → pt_X9_winsWith_1 l D d q Γ r0 x1 x3 x4 x5_11 μ_8))) : pt_X9_winsWith_1 l D d q Γ r0 x1 x3 x4 x5 μ := by
  unfold pt_X9_winsWith_1
  refine g_iload dX9_winsWith_36 rfl ?_
  refine g_iload dX9_winsWith_38 rfl ?_
  refine g_icmp_ge (tgt := 61) dX9_winsWith_40 (by decide) (fun c_1 => ?_) (fun c_1 => ?_)
  · have h := h.1 c_1
    refine g_aload_n dX9_winsWith_61 rfl ?_
    refine g_gfR fl_9_45 rfl hr0 dX9_winsWith_62 ?_
    refine g_gfI fi_9_271 (by decide) dX9_winsWith_65 ?_
    refine g_iload_n dX9_winsWith_68 rfl ?_
    refine g_icmp_ne (tgt := 76) dX9_winsWith_69 (by decide) (fun c_2 => ?_) (fun c_2 => ?_)
    · have h := h.1 c_2
      refine g_iconst (0 : Int32) dX9_winsWith_76 rfl ?_
      exact g_iret dX9_winsWith_77 rfl rfl ⟨_, rfl, h⟩
    · have h := h.2 c_2
      refine g_iconst (1 : Int32) dX9_winsWith_72 rfl ?_
      refine g_goto (tgt := 77) dX9_winsWith_73 (by decide) ?_
      exact g_iret dX9_winsWith_77 rfl rfl ⟨_, rfl, h⟩
  · have h := h.2 c_1
    refine g_aload_n dX9_winsWith_43 rfl ?_
    refine g_gfR fl_9_45 rfl hr0 dX9_winsWith_44 ?_
    refine g_aload_n dX9_winsWith_47 rfl ?_
    obtain ⟨hR_3, h⟩ := h
    refine g_gfR fl_9_28 rfl hr0 dX9_winsWith_48 ?_
    refine g_iload_n dX9_winsWith_51 rfl ?_
    obtain ⟨d_4, q_5, hd_6, hc_7, h⟩ := h
    refine g_cV ca_X9_239 ob_8 hc_7 hd_6 (by decide) (by decide) rfl rfl (by first | exact Nat.le_of_ble_eq_true rfl | decide) dX9_winsWith_52 (kV (fun μ_8 hq_10 => ?_))
    have h := h μ_8 hq_10
    refine g_iinc dX9_winsWith_55 rfl (by decide) (fun x5_11 ex5_11 => g_sub (lv' := [(0, .ref (D.2.2 9 r0)), (1, .int x1), (3, .int x3), (4, .int x4), (5, .int x5_11)]) [1, 2, 3, 4, 0] rfl ?_)
    have h := h x5_11 ex5_11
    refine g_goto (tgt := 36) dX9_winsWith_58 (by decide) ?_
    exact g_sub [0, 1, 2, 3, 4] rfl h
theorem en_X9_winsWith {l : Launch} {D : gD} {d : Nat} {q : Int32 → gMem → Prop} {r0 : Nat} {x1 : Int32} {x2 : Int32} {μ : gMem} (h : ∀ Γ : gC, pt_X9_winsWith_0 l D d q Γ r0 x1 x2 μ) : Ctr l D d yX9_winsWith cX9_winsWith 6 (some .boolean) [.ref (D.2.2 9 r0), .int x1, .int x2] μ (pI q) :=
  Ctr_of rfl (by decide) (Nat.le_of_ble_eq_true rfl) (fun Γ => g_sub [0, 1, 2] rfl (h Γ))
def pt_X9_neededOneByOne_0 (l : Launch) (D : gD) (d : Nat) (q : Int32 → gMem → Prop) (Γ : gC) (r0 : Nat) (x1 : Int32) (μ : gMem) : Prop := G l D RX9 cX9_neededOneByOne 3 (some .int) d (pI q) Γ 0 [(0, .ref (D.2.2 9 r0)), (1, .int x1)] [] μ
def pt_X9_neededOneByOne_1 (l : Launch) (D : gD) (d : Nat) (q : Int32 → gMem → Prop) (Γ : gC) (r0 : Nat) (x1 : Int32) (x2 : Int32) (μ : gMem) : Prop := G l D RX9 cX9_neededOneByOne 3 (some .int) d (pI q) Γ 2 [(0, .ref (D.2.2 9 r0)), (1, .int x1), (2, .int x2)] [] μ
set_option maxRecDepth 20000 in
set_option maxHeartbeats 4000000 in
theorem bl_X9_neededOneByOne_0 {l : Launch} {D : gD} {d : Nat} {q : Int32 → gMem → Prop} {Γ : gC} {r0 : Nat} {x1 : Int32} {μ : gMem} (hr0 : r0 < 1) (h : ∀ x2_1 : Int32, x2_1 = (0 : Int32) → pt_X9_neededOneByOne_1 l D d q Γ r0 x1 x2_1 μ) : pt_X9_neededOneByOne_0 l D d q Γ r0 x1 μ := by
  unfold pt_X9_neededOneByOne_0
  refine g_iconst (0 : Int32) dX9_neededOneByOne_0 rfl ?_
  refine g_istore_n dX9_neededOneByOne_1 (by decide) (fun x2_1 ex2_1 => g_sub (lv' := [(0, .ref (D.2.2 9 r0)), (1, .int x1), (2, .int x2_1)]) [1, 2, 0] rfl ?_)
  have h := h x2_1 ex2_1
  exact g_sub [0, 1, 2] rfl h
set_option maxRecDepth 20000 in
set_option maxHeartbeats 4000000 in
theorem bl_X9_neededOneByOne_1 {l : Launch} {D : gD} {d : Nat} {q : Int32 → gMem → Prop} {Γ : gC} {r0 : Nat} {x1 : Int32} {x2 : Int32} {μ : gMem} (hr0 : r0 < 1) (h : (((999 : Int32) < x2) → q (-2 : Int32) μ) ∧ ((¬ (999 : Int32) < x2) → ∃ (d_2 : Nat) (q_3 : Int32 → gMem → Prop), d_2 < d ∧ Ctr l D d_2 yX9_winsWith cX9_winsWith 6 (some .boolean) [.ref (D.2.2 9 r0), .int x1, .int x2] μ (pI q_3) ∧ ∀ (v_7 : Int32) (μ_6 : gMem), q_3 v_7 μ_6 → ((v_7 = 0) → ∀ x2_10 : Int32, x2_10 = x2 + (1 : Int32) → pt_X9_neededOneByOne_1 l D d q Γ r0 x1 x2_10 μ_6) ∧ ((¬ v_7 = 0) → q x2 μ_6))) : pt_X9_neededOneByOne_1 l D d q Γ r0 x1 x2 μ := by
  unfold pt_X9_neededOneByOne_1
  refine g_iload_n dX9_neededOneByOne_2 rfl ?_
  refine g_sipush (999 : Int32) dX9_neededOneByOne_3 rfl ?_
  refine g_icmp_gt (tgt := 26) dX9_neededOneByOne_6 (by decide) (fun c_1 => ?_) (fun c_1 => ?_)
  · have h := h.1 c_1
    refine g_bipush (-2 : Int32) dX9_neededOneByOne_26 rfl ?_
    exact g_iret dX9_neededOneByOne_28 rfl rfl ⟨_, rfl, h⟩
  · have h := h.2 c_1
    refine g_aload_n dX9_neededOneByOne_9 rfl ?_
    refine g_iload_n dX9_neededOneByOne_10 rfl ?_
    refine g_iload_n dX9_neededOneByOne_11 rfl ?_
    obtain ⟨d_2, q_3, hd_4, hc_5, h⟩ := h
    refine g_cV ca_X9_356 ob_9 hc_5 hd_4 (by decide) hr0 rfl rfl (by first | exact Nat.le_of_ble_eq_true rfl | decide) dX9_neededOneByOne_12 (kI (fun v_7 μ_6 hq_8 => ?_))
    have h := h v_7 μ_6 hq_8
    refine g_if_eq (tgt := 20) dX9_neededOneByOne_15 (by decide) (fun c_9 => ?_) (fun c_9 => ?_)
    · have h := h.1 c_9
      refine g_iinc dX9_neededOneByOne_20 rfl (by decide) (fun x2_10 ex2_10 => g_sub (lv' := [(0, .ref (D.2.2 9 r0)), (1, .int x1), (2, .int x2_10)]) [1, 2, 0] rfl ?_)
      have h := h x2_10 ex2_10
      refine g_goto (tgt := 2) dX9_neededOneByOne_23 (by decide) ?_
      exact g_sub [0, 1, 2] rfl h
    · have h := h.2 c_9
      refine g_iload_n dX9_neededOneByOne_18 rfl ?_
      exact g_iret dX9_neededOneByOne_19 rfl rfl ⟨_, rfl, h⟩
theorem en_X9_neededOneByOne {l : Launch} {D : gD} {d : Nat} {q : Int32 → gMem → Prop} {r0 : Nat} {x1 : Int32} {μ : gMem} (h : ∀ Γ : gC, pt_X9_neededOneByOne_0 l D d q Γ r0 x1 μ) : Ctr l D d yX9_neededOneByOne cX9_neededOneByOne 3 (some .int) [.ref (D.2.2 9 r0), .int x1] μ (pI q) :=
  Ctr_of rfl (by decide) (Nat.le_of_ble_eq_true rfl) (fun Γ => g_sub [0, 1] rfl (h Γ))
def pt_X9_neededByHalves_0 (l : Launch) (D : gD) (d : Nat) (q : Int32 → gMem → Prop) (Γ : gC) (r0 : Nat) (x1 : Int32) (μ : gMem) : Prop := G l D RX9 cX9_neededByHalves 6 (some .int) d (pI q) Γ 0 [(0, .ref (D.2.2 9 r0)), (1, .int x1)] [] μ
def pt_X9_neededByHalves_1 (l : Launch) (D : gD) (d : Nat) (q : Int32 → gMem → Prop) (Γ : gC) (r0 : Nat) (x1 : Int32) (x2 : Int32) (x3 : Int32) (x4 : Int32) (μ : gMem) : Prop := G l D RX9 cX9_neededByHalves 6 (some .int) d (pI q) Γ 23 [(0, .ref (D.2.2 9 r0)), (1, .int x1), (2, .int x2), (3, .int x3), (4, .int x4)] [] μ
def pt_X9_neededByHalves_2 (l : Launch) (D : gD) (d : Nat) (q : Int32 → gMem → Prop) (Γ : gC) (r0 : Nat) (x1 : Int32) (x2 : Int32) (x3 : Int32) (x4 : Int32) (μ : gMem) : Prop := G l D RX9 cX9_neededByHalves 6 (some .int) d (pI q) Γ 63 [(0, .ref (D.2.2 9 r0)), (1, .int x1), (2, .int x2), (3, .int x3), (4, .int x4)] [] μ
set_option maxRecDepth 20000 in
set_option maxHeartbeats 4000000 in
theorem bl_X9_neededByHalves_0 {l : Launch} {D : gD} {d : Nat} {q : Int32 → gMem → Prop} {Γ : gC} {r0 : Nat} {x1 : Int32} {μ : gMem} (hr0 : r0 < 1) (h : ∃ (d_1 : Nat) (q_2 : Int32 → gMem → Prop), d_1 < d ∧ Ctr l D d_1 yX9_winsWith cX9_winsWith 6 (some .boolean) [.ref (D.2.2 9 r0), .int x1, .int (999 : Int32)] μ (pI q_2) ∧ ∀ (v_6 : Int32) (μ_5 : gMem), q_2 v_6 μ_5 → ((¬ v_6 = 0) → ∀ x2_9 : Int32, x2_9 = (0 : Int32) → ∀ x3_10 : Int32, x3_10 = (999 : Int32) → ∀ x4_11 : Int32, x4_11 = (0 : Int32) → pt_X9_neededByHalves_1 l D d q Γ r0 x1 x2_9 x3_10 x4_11 μ_5) ∧ ((v_6 = 0) → q (-2 : Int32) μ_5)) : pt_X9_neededByHalves_0 l D d q Γ r0 x1 μ := by
  unfold pt_X9_neededByHalves_0
  refine g_aload_n dX9_neededByHalves_0 rfl ?_
  refine g_iload_n dX9_neededByHalves_1 rfl ?_
  refine g_sipush (999 : Int32) dX9_neededByHalves_2 rfl ?_
  obtain ⟨d_1, q_2, hd_3, hc_4, h⟩ := h
  refine g_cV ca_X9_356 ob_9 hc_4 hd_3 (by decide) hr0 rfl rfl (by first | exact Nat.le_of_ble_eq_true rfl | decide) dX9_neededByHalves_5 (kI (fun v_6 μ_5 hq_7 => ?_))
  have h := h v_6 μ_5 hq_7
  refine g_if_ne (tgt := 14) dX9_neededByHalves_8 (by decide) (fun c_8 => ?_) (fun c_8 => ?_)
  · have h := h.1 c_8
    refine g_iconst (0 : Int32) dX9_neededByHalves_14 rfl ?_
    refine g_istore_n dX9_neededByHalves_15 (by decide) (fun x2_9 ex2_9 => g_sub (lv' := [(0, .ref (D.2.2 9 r0)), (1, .int x1), (2, .int x2_9)]) [1, 2, 0] rfl ?_)
    have h := h x2_9 ex2_9
    refine g_sipush (999 : Int32) dX9_neededByHalves_16 rfl ?_
    refine g_istore_n dX9_neededByHalves_19 (by decide) (fun x3_10 ex3_10 => g_sub (lv' := [(0, .ref (D.2.2 9 r0)), (1, .int x1), (2, .int x2_9), (3, .int x3_10)]) [1, 2, 3, 0] rfl ?_)
    have h := h x3_10 ex3_10
    refine g_iconst (0 : Int32) dX9_neededByHalves_20 rfl ?_
    refine g_istore dX9_neededByHalves_21 (by decide) (fun x4_11 ex4_11 => g_sub (lv' := [(0, .ref (D.2.2 9 r0)), (1, .int x1), (2, .int x2_9), (3, .int x3_10), (4, .int x4_11)]) [1, 2, 3, 4, 0] rfl ?_)
    have h := h x4_11 ex4_11
    exact g_sub [0, 1, 2, 3, 4] rfl h
  · have h := h.2 c_8
    refine g_bipush (-2 : Int32) dX9_neededByHalves_11 rfl ?_
    exact g_iret dX9_neededByHalves_13 rfl rfl ⟨_, rfl, h⟩
set_option maxRecDepth 20000 in
set_option maxHeartbeats 4000000 in
theorem bl_X9_neededByHalves_1 {l : Launch} {D : gD} {d : Nat} {q : Int32 → gMem → Prop} {Γ : gC} {r0 : Nat} {x1 : Int32} {x2 : Int32} {x3 : Int32} {x4 : Int32} {μ : gMem} (hr0 : r0 < 1) (h : (((12 : Int32) ≤ x4) → q x3 μ) ∧ ((¬ (12 : Int32) ≤ x4) → ((x3 ≤ x2) → q x3 μ) ∧ ((¬ x3 ≤ x2) → ∀ x5_3 : Int32, x5_3 = (x2 + x3) / (2 : Int32) → ∃ (d_4 : Nat) (q_5 : Int32 → gMem → Prop), d_4 < d ∧ Ctr l D d_4 yX9_winsWith cX9_winsWith 6 (some .boolean) [.ref (D.2.2 9 r0), .int x1, .int x5_3] μ (pI q_5) ∧ ∀ (v_9 : Int32) (μ_8 : gMem), q_5 v_9 μ_8 → ((v_9 = 0) → ∀ x2_12 : Int32, x2_12 = x5_3 + (1 : Int32) → pt_X9_neededByHalves_2 l D d q Γ r0 x1 x2_12 x3 x4 μ_8) ∧ ((¬ v_9 = 0) → ∀ x3_13 : Int32, x3_13 = x5_3 → pt_X9_neededByHalves_2 l D d q Γ r0 x1 x2 x3_13 x4 μ_8)))) : pt_X9_neededByHalves_1 l D d q Γ r0 x1 x2 x3 x4 μ := by
  unfold pt_X9_neededByHalves_1
  refine g_iload dX9_neededByHalves_23 rfl ?_
  refine g_bipush (12 : Int32) dX9_neededByHalves_25 rfl ?_
  refine g_icmp_ge (tgt := 69) dX9_neededByHalves_27 (by decide) (fun c_1 => ?_) (fun c_1 => ?_)
  · have h := h.1 c_1
    refine g_iload_n dX9_neededByHalves_69 rfl ?_
    exact g_iret dX9_neededByHalves_70 rfl rfl ⟨_, rfl, h⟩
  · have h := h.2 c_1
    refine g_iload_n dX9_neededByHalves_30 rfl ?_
    refine g_iload_n dX9_neededByHalves_31 rfl ?_
    refine g_icmp_ge (tgt := 69) dX9_neededByHalves_32 (by decide) (fun c_2 => ?_) (fun c_2 => ?_)
    · have h := h.1 c_2
      refine g_iload_n dX9_neededByHalves_69 rfl ?_
      exact g_iret dX9_neededByHalves_70 rfl rfl ⟨_, rfl, h⟩
    · have h := h.2 c_2
      refine g_iload_n dX9_neededByHalves_35 rfl ?_
      refine g_iload_n dX9_neededByHalves_36 rfl ?_
      refine g_iadd dX9_neededByHalves_37 ?_
      refine g_iconst (2 : Int32) dX9_neededByHalves_38 rfl ?_
      refine g_idiv dX9_neededByHalves_39 (by decide) ?_
      refine g_istore dX9_neededByHalves_40 (by decide) (fun x5_3 ex5_3 => g_sub (lv' := [(0, .ref (D.2.2 9 r0)), (1, .int x1), (2, .int x2), (3, .int x3), (4, .int x4), (5, .int x5_3)]) [1, 2, 3, 4, 5, 0] rfl ?_)
      have h := h x5_3 ex5_3
      refine g_aload_n dX9_neededByHalves_42 rfl ?_
      refine g_iload_n dX9_neededByHalves_43 rfl ?_
      refine g_iload dX9_neededByHalves_44 rfl ?_
      obtain ⟨d_4, q_5, hd_6, hc_7, h⟩ := h
      refine g_cV ca_X9_356 ob_9 hc_7 hd_6 (by decide) hr0 rfl rfl (by first | exact Nat.le_of_ble_eq_true rfl | decide) dX9_neededByHalves_46 (kI (fun v_9 μ_8 hq_10 => ?_))
      have h := h v_9 μ_8 hq_10
      refine g_if_eq (tgt := 58) dX9_neededByHalves_49 (by decide) (fun c_11 => ?_) (fun c_11 => ?_)
      · have h := h.1 c_11
        refine g_iload dX9_neededByHalves_58 rfl ?_
        refine g_iconst (1 : Int32) dX9_neededByHalves_60 rfl ?_
        refine g_iadd dX9_neededByHalves_61 ?_
        refine g_istore_n dX9_neededByHalves_62 (by decide) (fun x2_12 ex2_12 => g_sub (lv' := [(0, .ref (D.2.2 9 r0)), (1, .int x1), (2, .int x2_12), (3, .int x3), (4, .int x4)]) [1, 2, 0, 3, 4] rfl ?_)
        have h := h x2_12 ex2_12
        exact g_sub [0, 1, 2, 3, 4] rfl h
      · have h := h.2 c_11
        refine g_iload dX9_neededByHalves_52 rfl ?_
        refine g_istore_n dX9_neededByHalves_54 (by decide) (fun x3_13 ex3_13 => g_sub (lv' := [(0, .ref (D.2.2 9 r0)), (1, .int x1), (2, .int x2), (3, .int x3_13), (4, .int x4)]) [1, 2, 3, 0, 4] rfl ?_)
        have h := h x3_13 ex3_13
        refine g_goto (tgt := 63) dX9_neededByHalves_55 (by decide) ?_
        exact g_sub [0, 1, 2, 3, 4] rfl h
set_option maxRecDepth 20000 in
set_option maxHeartbeats 4000000 in
theorem bl_X9_neededByHalves_2 {l : Launch} {D : gD} {d : Nat} {q : Int32 → gMem → Prop} {Γ : gC} {r0 : Nat} {x1 : Int32} {x2 : Int32} {x3 : Int32} {x4 : Int32} {μ : gMem} (hr0 : r0 < 1) (h : ∀ x4_1 : Int32, x4_1 = x4 + (1 : Int32) → pt_X9_neededByHalves_1 l D d q Γ r0 x1 x2 x3 x4_1 μ) : pt_X9_neededByHalves_2 l D d q Γ r0 x1 x2 x3 x4 μ := by
  unfold pt_X9_neededByHalves_2
  refine g_iinc dX9_neededByHalves_63 rfl (by decide) (fun x4_1 ex4_1 => g_sub (lv' := [(0, .ref (D.2.2 9 r0)), (1, .int x1), (2, .int x2), (3, .int x3), (4, .int x4_1)]) [1, 2, 3, 4, 0] rfl ?_)
  have h := h x4_1 ex4_1
  refine g_goto (tgt := 23) dX9_neededByHalves_66 (by decide) ?_
  exact g_sub [0, 1, 2, 3, 4] rfl h
theorem en_X9_neededByHalves {l : Launch} {D : gD} {d : Nat} {q : Int32 → gMem → Prop} {r0 : Nat} {x1 : Int32} {μ : gMem} (h : ∀ Γ : gC, pt_X9_neededByHalves_0 l D d q Γ r0 x1 μ) : Ctr l D d yX9_neededByHalves cX9_neededByHalves 6 (some .int) [.ref (D.2.2 9 r0), .int x1] μ (pI q) :=
  Ctr_of rfl (by decide) (Nat.le_of_ble_eq_true rfl) (fun Γ => g_sub [0, 1] rfl (h Γ))
def pt_X9_chooseFurther_0 (l : Launch) (D : gD) (d : Nat) (q : gMem → Prop) (Γ : gC) (r0 : Nat) (x1 : Int32) (x2 : Int32) (μ : gMem) : Prop := G l D RX9 cX9_chooseFurther 4 none d (pV q) Γ 0 [(0, .ref (D.2.2 9 r0)), (1, .int x1), (2, .int x2)] [] μ
def pt_X9_chooseFurther_1 (l : Launch) (D : gD) (d : Nat) (q : gMem → Prop) (Γ : gC) (r0 : Nat) (x1 : Int32) (x2 : Int32) (x3 : Int32) (μ : gMem) : Prop := G l D RX9 cX9_chooseFurther 4 none d (pV q) Γ 2 [(0, .ref (D.2.2 9 r0)), (1, .int x1), (2, .int x2), (3, .int x3)] [] μ
set_option maxRecDepth 20000 in
set_option maxHeartbeats 4000000 in
theorem bl_X9_chooseFurther_0 {l : Launch} {D : gD} {d : Nat} {q : gMem → Prop} {Γ : gC} {r0 : Nat} {x1 : Int32} {x2 : Int32} {μ : gMem} (hr0 : r0 < 1) (h : ∀ x3_1 : Int32, x3_1 = (0 : Int32) → pt_X9_chooseFurther_1 l D d q Γ r0 x1 x2 x3_1 μ) : pt_X9_chooseFurther_0 l D d q Γ r0 x1 x2 μ := by
  unfold pt_X9_chooseFurther_0
  refine g_iconst (0 : Int32) dX9_chooseFurther_0 rfl ?_
  refine g_istore_n dX9_chooseFurther_1 (by decide) (fun x3_1 ex3_1 => g_sub (lv' := [(0, .ref (D.2.2 9 r0)), (1, .int x1), (2, .int x2), (3, .int x3_1)]) [1, 2, 3, 0] rfl ?_)
  have h := h x3_1 ex3_1
  exact g_sub [0, 1, 2, 3] rfl h
set_option maxRecDepth 20000 in
set_option maxHeartbeats 4000000 in
theorem bl_X9_chooseFurther_1 {l : Launch} {D : gD} {d : Nat} {q : gMem → Prop} {Γ : gC} {r0 : Nat} {x1 : Int32} {x2 : Int32} {x3 : Int32} {μ : gMem} (hr0 : r0 < 1) (h : (((nI 25) ≤ x3) → q μ) ∧ ((¬ (nI 25) ≤ x3) → ∃ (d_2 : Nat) (q_3 : gMem → Prop), d_2 < d ∧ Ctr l D d_2 yX9_lookAtAll cX9_lookAtAll 1 none [.ref (D.2.2 9 r0)] μ (pV q_3) ∧ ∀ (μ_6 : gMem), q_3 μ_6 → ∃ j_9 : Nat, j_9 < 5 ∧ x1 = nI j_9 ∧ (∀ μ_11 : gMem, μ_11 = gsI μ_6 4 (5 * 2 + j_9) 9 ((μ_6.1 4 (5 * 2 + j_9) 9) + ((10 : Int32) * (x3 / (5 : Int32)))) → ∃ j_12 : Nat, j_12 < 5 ∧ x2 = nI j_12 ∧ (∀ μ_14 : gMem, μ_14 = gsI μ_11 4 (5 * 2 + j_12) 9 ((μ_11.1 4 (5 * 2 + j_12) 9) + ((10 : Int32) * (x3 - x3 / (5 : Int32) * (5 : Int32)))) → ∃ (d_15 : Nat) (q_16 : Int32 → gMem → Prop), d_15 < d ∧ Ctr l D d_15 yX9_daysToPot cX9_daysToPot 1 (some .int) [.ref (D.2.2 9 r0)] μ_14 (pI q_16) ∧ ∀ (v_20 : Int32) (μ_19 : gMem), q_16 v_20 μ_19 → ∃ (d_22 : Nat) (q_23 : gMem → Prop), d_22 < d ∧ Ctr l D d_22 yX9_passAsItGoes cX9_passAsItGoes 4 none [.ref (D.2.2 9 r0), .int v_20] μ_19 (pV q_23) ∧ ∀ (μ_26 : gMem), q_23 μ_26 → ∃ j_29 : Nat, j_29 < 25 ∧ x3 = nI j_29 ∧ (∀ μ_30 : gMem, μ_30 = gsI μ_26 649 r0 j_29 (μ_26.1 8 2 4) → ∀ x3_31 : Int32, x3_31 = x3 + (1 : Int32) → pt_X9_chooseFurther_1 l D d q Γ r0 x1 x2 x3_31 μ_30))))) : pt_X9_chooseFurther_1 l D d q Γ r0 x1 x2 x3 μ := by
  unfold pt_X9_chooseFurther_1
  refine g_iload_n dX9_chooseFurther_2 rfl ?_
  refine g_aload_n dX9_chooseFurther_3 rfl ?_
  refine g_gfR fl_9_62 rfl hr0 dX9_chooseFurther_4 ?_
  refine g_alen hr0 rfl (by decide) dX9_chooseFurther_7 ?_
  refine g_icmp_ge (tgt := 88) dX9_chooseFurther_8 (by decide) (fun c_1 => ?_) (fun c_1 => ?_)
  · have h := h.1 c_1
    exact g_vret dX9_chooseFurther_88 rfl ⟨rfl, h⟩
  · have h := h.2 c_1
    refine g_aload_n dX9_chooseFurther_11 rfl ?_
    obtain ⟨d_2, q_3, hd_4, hc_5, h⟩ := h
    refine g_cV ca_X9_268 ob_9 hc_5 hd_4 (by decide) hr0 rfl rfl (by first | exact Nat.le_of_ble_eq_true rfl | decide) dX9_chooseFurther_12 (kV (fun μ_6 hq_8 => ?_))
    have h := h μ_6 hq_8
    refine g_aload_n dX9_chooseFurther_15 rfl ?_
    refine g_gfR fl_9_45 rfl hr0 dX9_chooseFurther_16 ?_
    refine g_gfR fl_9_132 rfl (by decide) dX9_chooseFurther_19 ?_
    refine g_iload_n dX9_chooseFurther_22 rfl ?_
    obtain ⟨j_9, hj_9, ej_9, h⟩ := h
    refine g_aald j_9 (by decide) hj_9 ej_9 dX9_chooseFurther_23 ?_
    have hp_10 : 5 * 2 + j_9 < 15 := by have : 2 < 3 := (by decide); omega
    refine g_dup dX9_chooseFurther_24 rfl ?_
    refine g_gfI fi_9_170 hp_10 dX9_chooseFurther_25 ?_
    refine g_bipush (10 : Int32) dX9_chooseFurther_28 rfl ?_
    refine g_iload_n dX9_chooseFurther_30 rfl ?_
    refine g_iconst (5 : Int32) dX9_chooseFurther_31 rfl ?_
    refine g_idiv dX9_chooseFurther_32 (by decide) ?_
    refine g_imul dX9_chooseFurther_33 ?_
    refine g_iadd dX9_chooseFurther_34 ?_
    refine g_pfI fi_9_170 hp_10 rfl rfl dX9_chooseFurther_35 ?_
    obtain ⟨μ_11, eμ_11⟩ : ∃ z : gMem, z = gsI μ_6 4 (5 * 2 + j_9) 9 ((μ_6.1 4 (5 * 2 + j_9) 9) + ((10 : Int32) * (x3 / (5 : Int32)))) := ⟨_, rfl⟩
    have h := h μ_11 eμ_11
    refine g_mem eμ_11.symm ?_
    refine g_aload_n dX9_chooseFurther_38 rfl ?_
    refine g_gfR fl_9_45 rfl hr0 dX9_chooseFurther_39 ?_
    refine g_gfR fl_9_132 rfl (by decide) dX9_chooseFurther_42 ?_
    refine g_iload_n dX9_chooseFurther_45 rfl ?_
    obtain ⟨j_12, hj_12, ej_12, h⟩ := h
    refine g_aald j_12 (by decide) hj_12 ej_12 dX9_chooseFurther_46 ?_
    have hp_13 : 5 * 2 + j_12 < 15 := by have : 2 < 3 := (by decide); omega
    refine g_dup dX9_chooseFurther_47 rfl ?_
    refine g_gfI fi_9_170 hp_13 dX9_chooseFurther_48 ?_
    refine g_bipush (10 : Int32) dX9_chooseFurther_51 rfl ?_
    refine g_iload_n dX9_chooseFurther_53 rfl ?_
    refine g_iconst (5 : Int32) dX9_chooseFurther_54 rfl ?_
    refine g_irem dX9_chooseFurther_55 (by decide) ?_
    refine g_imul dX9_chooseFurther_56 ?_
    refine g_iadd dX9_chooseFurther_57 ?_
    refine g_pfI fi_9_170 hp_13 rfl rfl dX9_chooseFurther_58 ?_
    obtain ⟨μ_14, eμ_14⟩ : ∃ z : gMem, z = gsI μ_11 4 (5 * 2 + j_12) 9 ((μ_11.1 4 (5 * 2 + j_12) 9) + ((10 : Int32) * (x3 - x3 / (5 : Int32) * (5 : Int32)))) := ⟨_, rfl⟩
    have h := h μ_14 eμ_14
    refine g_mem eμ_14.symm ?_
    refine g_aload_n dX9_chooseFurther_61 rfl ?_
    refine g_aload_n dX9_chooseFurther_62 rfl ?_
    obtain ⟨d_15, q_16, hd_17, hc_18, h⟩ := h
    refine g_cV ca_X9_264 ob_9 hc_18 hd_17 (by decide) hr0 rfl rfl (by first | exact Nat.le_of_ble_eq_true rfl | decide) dX9_chooseFurther_63 (kI (fun v_20 μ_19 hq_21 => ?_))
    have h := h v_20 μ_19 hq_21
    obtain ⟨d_22, q_23, hd_24, hc_25, h⟩ := h
    refine g_cV ca_X9_247 ob_9 hc_25 hd_24 (by decide) hr0 rfl rfl (by first | exact Nat.le_of_ble_eq_true rfl | decide) dX9_chooseFurther_66 (kV (fun μ_26 hq_28 => ?_))
    have h := h μ_26 hq_28
    refine g_aload_n dX9_chooseFurther_69 rfl ?_
    refine g_gfR fl_9_62 rfl hr0 dX9_chooseFurther_70 ?_
    refine g_iload_n dX9_chooseFurther_73 rfl ?_
    refine g_aload_n dX9_chooseFurther_74 rfl ?_
    refine g_gfR fl_9_45 rfl hr0 dX9_chooseFurther_75 ?_
    refine g_gfI fi_9_271 (by decide) dX9_chooseFurther_78 ?_
    obtain ⟨j_29, hj_29, ej_29, h⟩ := h
    refine g_iast j_29 hr0 rfl hj_29 (by decide) ej_29 dX9_chooseFurther_81 ?_
    obtain ⟨μ_30, eμ_30⟩ : ∃ z : gMem, z = gsI μ_26 649 r0 j_29 (μ_26.1 8 2 4) := ⟨_, rfl⟩
    have h := h μ_30 eμ_30
    refine g_mem eμ_30.symm ?_
    refine g_iinc dX9_chooseFurther_82 rfl (by decide) (fun x3_31 ex3_31 => g_sub (lv' := [(0, .ref (D.2.2 9 r0)), (1, .int x1), (2, .int x2), (3, .int x3_31)]) [1, 2, 3, 0] rfl ?_)
    have h := h x3_31 ex3_31
    refine g_goto (tgt := 2) dX9_chooseFurther_85 (by decide) ?_
    exact g_sub [0, 1, 2, 3] rfl h
theorem en_X9_chooseFurther {l : Launch} {D : gD} {d : Nat} {q : gMem → Prop} {r0 : Nat} {x1 : Int32} {x2 : Int32} {μ : gMem} (h : ∀ Γ : gC, pt_X9_chooseFurther_0 l D d q Γ r0 x1 x2 μ) : Ctr l D d yX9_chooseFurther cX9_chooseFurther 4 none [.ref (D.2.2 9 r0), .int x1, .int x2] μ (pV q) :=
  Ctr_of rfl (by decide) (Nat.le_of_ble_eq_true rfl) (fun Γ => g_sub [0, 1, 2] rfl (h Γ))
