def pt_X6_readSign_0 (l : Launch) (D : gD) (d : Nat) (q : gMem → Prop) (Γ : gC) (r0 : Nat) (μ : gMem) : Prop := G l D RX6 cX6_readSign 2 none d (pV q) Γ 0 [(0, .ref (D.2.2 6 r0))] [] μ
def pt_X6_readSign_1 (l : Launch) (D : gD) (d : Nat) (q : gMem → Prop) (Γ : gC) (rs0 : Nat) (xs1 : Int32) (μ : gMem) : Prop := G l D RX6 cX6_readSign 2 none d (pV q) Γ 159 [] [.int xs1, .ref (D.2.2 6 rs0)] μ
def pt_X6_readSign_2 (l : Launch) (D : gD) (d : Nat) (q : gMem → Prop) (Γ : gC) (rs0 : Nat) (xs1 : Int32) (μ : gMem) : Prop := G l D RX6 cX6_readSign 2 none d (pV q) Γ 182 [] [.int xs1, .ref (D.2.2 6 rs0)] μ
set_option maxRecDepth 20000 in
set_option maxHeartbeats 4000000 in
theorem bl_X6_readSign_0 {l : Launch} {D : gD} {d : Nat} {q : gMem → Prop} {Γ : gC} {r0 : Nat} {μ : gMem} (hr0 : r0 < 1) (h : ∃ j_1 : Nat, j_1 < 700 ∧ μ.1 6 r0 4 = nI j_1 ∧ (∀ x1_2 : Int32, x1_2 = μ.1 448 r0 j_1 → ∀ μ_3 : gMem, μ_3 = gsI μ 6 r0 4 ((μ.1 6 r0 4) + (1 : Int32)) → (x1_2 = (40 : Int32) → ∀ μ_34 : gMem, μ_34 = gsI μ_3 6 r0 5 (31 : Int32) → q μ_34) ∧ (x1_2 = (41 : Int32) → ∀ μ_35 : gMem, μ_35 = gsI μ_3 6 r0 5 (32 : Int32) → q μ_35) ∧ (x1_2 = (42 : Int32) → ∀ μ_32 : gMem, μ_32 = gsI μ_3 6 r0 5 (29 : Int32) → q μ_32) ∧ (x1_2 = (43 : Int32) → ∀ μ_30 : gMem, μ_30 = gsI μ_3 6 r0 5 (27 : Int32) → q μ_30) ∧ (x1_2 = (45 : Int32) → ∀ μ_31 : gMem, μ_31 = gsI μ_3 6 r0 5 (28 : Int32) → q μ_31) ∧ (x1_2 = (47 : Int32) → ∀ μ_33 : gMem, μ_33 = gsI μ_3 6 r0 5 (30 : Int32) → q μ_33) ∧ (x1_2 = (59 : Int32) → ∀ μ_36 : gMem, μ_36 = gsI μ_3 6 r0 5 (33 : Int32) → q μ_36) ∧ (x1_2 = (60 : Int32) → ∃ (d_5 : Nat) (q_6 : Int32 → gMem → Prop), d_5 < d ∧ Ctr l D d_5 yX6_takes cX6_takes 2 (some .boolean) [.ref (D.2.2 6 r0), .int (61 : Int32)] μ_3 (pI q_6) ∧ ∀ (v_10 : Int32) (μ_9 : gMem), q_6 v_10 μ_9 → ((v_10 = 0) → ∃ (d_13 : Nat) (q_14 : Int32 → gMem → Prop), d_13 < d ∧ Ctr l D d_13 yX6_takes cX6_takes 2 (some .boolean) [.ref (D.2.2 6 r0), .int (62 : Int32)] μ_9 (pI q_14) ∧ ∀ (v_18 : Int32) (μ_17 : gMem), q_14 v_18 μ_17 → ((v_18 = 0) → pt_X6_readSign_1 l D d q Γ r0 (21 : Int32) μ_17) ∧ ((¬ v_18 = 0) → pt_X6_readSign_1 l D d q Γ r0 (24 : Int32) μ_17)) ∧ ((¬ v_10 = 0) → pt_X6_readSign_1 l D d q Γ r0 (22 : Int32) μ_9)) ∧ (x1_2 = (61 : Int32) → ∀ μ_29 : gMem, μ_29 = gsI μ_3 6 r0 5 (23 : Int32) → q μ_29) ∧ (x1_2 = (62 : Int32) → ∃ (d_21 : Nat) (q_22 : Int32 → gMem → Prop), d_21 < d ∧ Ctr l D d_21 yX6_takes cX6_takes 2 (some .boolean) [.ref (D.2.2 6 r0), .int (61 : Int32)] μ_3 (pI q_22) ∧ ∀ (v_26 : Int32) (μ_25 : gMem), q_22 v_26 μ_25 → ((v_26 = 0) → pt_X6_readSign_2 l D d q Γ r0 (26 : Int32) μ_25) ∧ ((¬ v_26 = 0) → pt_X6_readSign_2 l D d q Γ r0 (25 : Int32) μ_25)) ∧ ((¬ x1_2 = (40 : Int32) ∧ ¬ x1_2 = (41 : Int32) ∧ ¬ x1_2 = (42 : Int32) ∧ ¬ x1_2 = (43 : Int32) ∧ ¬ x1_2 = (45 : Int32) ∧ ¬ x1_2 = (47 : Int32) ∧ ¬ x1_2 = (59 : Int32) ∧ ¬ x1_2 = (60 : Int32) ∧ ¬ x1_2 = (61 : Int32) ∧ ¬ x1_2 = (62 : Int32)) → ∀ μ_37 : gMem, μ_37 = gsI μ_3 6 r0 5 (37 : Int32) → q μ_37))) : pt_X6_readSign_0 l D d q Γ r0 μ := by
  unfold pt_X6_readSign_0
  refine g_aload_n dX6_readSign_0 rfl ?_
  refine g_gfR fl_6_9 rfl hr0 dX6_readSign_1 ?_
  refine g_aload_n dX6_readSign_4 rfl ?_
  refine g_gfI fi_6_46 hr0 dX6_readSign_5 ?_
  obtain ⟨j_1, hj_1, ej_1, h⟩ := h
  refine g_bald j_1 hr0 rfl hj_1 (by decide) ej_1 dX6_readSign_8 ?_
  refine g_istore_n dX6_readSign_9 (by decide) (fun x1_2 ex1_2 => g_sub (lv' := [(0, .ref (D.2.2 6 r0)), (1, .int x1_2)]) [1, 0] rfl ?_)
  have h := h x1_2 ex1_2
  refine g_aload_n dX6_readSign_10 rfl ?_
  refine g_dup dX6_readSign_11 rfl ?_
  refine g_gfI fi_6_46 hr0 dX6_readSign_12 ?_
  refine g_iconst (1 : Int32) dX6_readSign_15 rfl ?_
  refine g_iadd dX6_readSign_16 ?_
  refine g_pfI fi_6_46 hr0 rfl rfl dX6_readSign_17 ?_
  obtain ⟨μ_3, eμ_3⟩ : ∃ z : gMem, z = gsI μ 6 r0 4 ((μ.1 6 r0 4) + (1 : Int32)) := ⟨_, rfl⟩
  have h := h μ_3 eμ_3
  refine g_mem eμ_3.symm ?_
  refine g_iload_n dX6_readSign_20 rfl ?_
  by_cases c_4_40 : x1_2 = (40 : Int32)
  · refine g_tableIn (off := 212) (tgt := 233) dX6_readSign_21 (by rw [c_4_40]; decide) (by rw [c_4_40]; decide) (by rw [c_4_40]; rfl) (by decide) ?_
    have h := h.1 c_4_40
    refine g_aload_n dX6_readSign_233 rfl ?_
    refine g_bipush (31 : Int32) dX6_readSign_234 rfl ?_
    refine g_pfI fi_6_58 hr0 rfl rfl dX6_readSign_236 ?_
    obtain ⟨μ_34, eμ_34⟩ : ∃ z : gMem, z = gsI μ_3 6 r0 5 (31 : Int32) := ⟨_, rfl⟩
    have h := h μ_34 eμ_34
    refine g_mem eμ_34.symm ?_
    refine g_goto (tgt := 266) dX6_readSign_239 (by decide) ?_
    exact g_vret dX6_readSign_266 rfl ⟨rfl, h⟩
  by_cases c_4_41 : x1_2 = (41 : Int32)
  · refine g_tableIn (off := 221) (tgt := 242) dX6_readSign_21 (by rw [c_4_41]; decide) (by rw [c_4_41]; decide) (by rw [c_4_41]; rfl) (by decide) ?_
    have h := h.2.1 c_4_41
    refine g_aload_n dX6_readSign_242 rfl ?_
    refine g_bipush (32 : Int32) dX6_readSign_243 rfl ?_
    refine g_pfI fi_6_58 hr0 rfl rfl dX6_readSign_245 ?_
    obtain ⟨μ_35, eμ_35⟩ : ∃ z : gMem, z = gsI μ_3 6 r0 5 (32 : Int32) := ⟨_, rfl⟩
    have h := h μ_35 eμ_35
    refine g_mem eμ_35.symm ?_
    refine g_goto (tgt := 266) dX6_readSign_248 (by decide) ?_
    exact g_vret dX6_readSign_266 rfl ⟨rfl, h⟩
  by_cases c_4_42 : x1_2 = (42 : Int32)
  · refine g_tableIn (off := 194) (tgt := 215) dX6_readSign_21 (by rw [c_4_42]; decide) (by rw [c_4_42]; decide) (by rw [c_4_42]; rfl) (by decide) ?_
    have h := h.2.2.1 c_4_42
    refine g_aload_n dX6_readSign_215 rfl ?_
    refine g_bipush (29 : Int32) dX6_readSign_216 rfl ?_
    refine g_pfI fi_6_58 hr0 rfl rfl dX6_readSign_218 ?_
    obtain ⟨μ_32, eμ_32⟩ : ∃ z : gMem, z = gsI μ_3 6 r0 5 (29 : Int32) := ⟨_, rfl⟩
    have h := h μ_32 eμ_32
    refine g_mem eμ_32.symm ?_
    refine g_goto (tgt := 266) dX6_readSign_221 (by decide) ?_
    exact g_vret dX6_readSign_266 rfl ⟨rfl, h⟩
  by_cases c_4_43 : x1_2 = (43 : Int32)
  · refine g_tableIn (off := 176) (tgt := 197) dX6_readSign_21 (by rw [c_4_43]; decide) (by rw [c_4_43]; decide) (by rw [c_4_43]; rfl) (by decide) ?_
    have h := h.2.2.2.1 c_4_43
    refine g_aload_n dX6_readSign_197 rfl ?_
    refine g_bipush (27 : Int32) dX6_readSign_198 rfl ?_
    refine g_pfI fi_6_58 hr0 rfl rfl dX6_readSign_200 ?_
    obtain ⟨μ_30, eμ_30⟩ : ∃ z : gMem, z = gsI μ_3 6 r0 5 (27 : Int32) := ⟨_, rfl⟩
    have h := h μ_30 eμ_30
    refine g_mem eμ_30.symm ?_
    refine g_goto (tgt := 266) dX6_readSign_203 (by decide) ?_
    exact g_vret dX6_readSign_266 rfl ⟨rfl, h⟩
  by_cases c_4_44 : x1_2 = (44 : Int32)
  · refine g_tableIn (off := 239) (tgt := 260) dX6_readSign_21 (by rw [c_4_44]; decide) (by rw [c_4_44]; decide) (by rw [c_4_44]; rfl) (by decide) ?_
    have h := h.2.2.2.2.2.2.2.2.2.2 (⟨by rw [c_4_44]; decide, by rw [c_4_44]; decide, by rw [c_4_44]; decide, by rw [c_4_44]; decide, by rw [c_4_44]; decide, by rw [c_4_44]; decide, by rw [c_4_44]; decide, by rw [c_4_44]; decide, by rw [c_4_44]; decide, by rw [c_4_44]; decide⟩)
    refine g_aload_n dX6_readSign_260 rfl ?_
    refine g_bipush (37 : Int32) dX6_readSign_261 rfl ?_
    refine g_pfI fi_6_58 hr0 rfl rfl dX6_readSign_263 ?_
    obtain ⟨μ_37, eμ_37⟩ : ∃ z : gMem, z = gsI μ_3 6 r0 5 (37 : Int32) := ⟨_, rfl⟩
    have h := h μ_37 eμ_37
    refine g_mem eμ_37.symm ?_
    exact g_vret dX6_readSign_266 rfl ⟨rfl, h⟩
  by_cases c_4_45 : x1_2 = (45 : Int32)
  · refine g_tableIn (off := 185) (tgt := 206) dX6_readSign_21 (by rw [c_4_45]; decide) (by rw [c_4_45]; decide) (by rw [c_4_45]; rfl) (by decide) ?_
    have h := h.2.2.2.2.1 c_4_45
    refine g_aload_n dX6_readSign_206 rfl ?_
    refine g_bipush (28 : Int32) dX6_readSign_207 rfl ?_
    refine g_pfI fi_6_58 hr0 rfl rfl dX6_readSign_209 ?_
    obtain ⟨μ_31, eμ_31⟩ : ∃ z : gMem, z = gsI μ_3 6 r0 5 (28 : Int32) := ⟨_, rfl⟩
    have h := h μ_31 eμ_31
    refine g_mem eμ_31.symm ?_
    refine g_goto (tgt := 266) dX6_readSign_212 (by decide) ?_
    exact g_vret dX6_readSign_266 rfl ⟨rfl, h⟩
  by_cases c_4_46 : x1_2 = (46 : Int32)
  · refine g_tableIn (off := 239) (tgt := 260) dX6_readSign_21 (by rw [c_4_46]; decide) (by rw [c_4_46]; decide) (by rw [c_4_46]; rfl) (by decide) ?_
    have h := h.2.2.2.2.2.2.2.2.2.2 (⟨by rw [c_4_46]; decide, by rw [c_4_46]; decide, by rw [c_4_46]; decide, by rw [c_4_46]; decide, by rw [c_4_46]; decide, by rw [c_4_46]; decide, by rw [c_4_46]; decide, by rw [c_4_46]; decide, by rw [c_4_46]; decide, by rw [c_4_46]; decide⟩)
    refine g_aload_n dX6_readSign_260 rfl ?_
    refine g_bipush (37 : Int32) dX6_readSign_261 rfl ?_
    refine g_pfI fi_6_58 hr0 rfl rfl dX6_readSign_263 ?_
    obtain ⟨μ_37, eμ_37⟩ : ∃ z : gMem, z = gsI μ_3 6 r0 5 (37 : Int32) := ⟨_, rfl⟩
    have h := h μ_37 eμ_37
    refine g_mem eμ_37.symm ?_
    exact g_vret dX6_readSign_266 rfl ⟨rfl, h⟩
  by_cases c_4_47 : x1_2 = (47 : Int32)
  · refine g_tableIn (off := 203) (tgt := 224) dX6_readSign_21 (by rw [c_4_47]; decide) (by rw [c_4_47]; decide) (by rw [c_4_47]; rfl) (by decide) ?_
    have h := h.2.2.2.2.2.1 c_4_47
    refine g_aload_n dX6_readSign_224 rfl ?_
    refine g_bipush (30 : Int32) dX6_readSign_225 rfl ?_
    refine g_pfI fi_6_58 hr0 rfl rfl dX6_readSign_227 ?_
    obtain ⟨μ_33, eμ_33⟩ : ∃ z : gMem, z = gsI μ_3 6 r0 5 (30 : Int32) := ⟨_, rfl⟩
    have h := h μ_33 eμ_33
    refine g_mem eμ_33.symm ?_
    refine g_goto (tgt := 266) dX6_readSign_230 (by decide) ?_
    exact g_vret dX6_readSign_266 rfl ⟨rfl, h⟩
  by_cases c_4_48 : x1_2 = (48 : Int32)
  · refine g_tableIn (off := 239) (tgt := 260) dX6_readSign_21 (by rw [c_4_48]; decide) (by rw [c_4_48]; decide) (by rw [c_4_48]; rfl) (by decide) ?_
    have h := h.2.2.2.2.2.2.2.2.2.2 (⟨by rw [c_4_48]; decide, by rw [c_4_48]; decide, by rw [c_4_48]; decide, by rw [c_4_48]; decide, by rw [c_4_48]; decide, by rw [c_4_48]; decide, by rw [c_4_48]; decide, by rw [c_4_48]; decide, by rw [c_4_48]; decide, by rw [c_4_48]; decide⟩)
    refine g_aload_n dX6_readSign_260 rfl ?_
    refine g_bipush (37 : Int32) dX6_readSign_261 rfl ?_
    refine g_pfI fi_6_58 hr0 rfl rfl dX6_readSign_263 ?_
    obtain ⟨μ_37, eμ_37⟩ : ∃ z : gMem, z = gsI μ_3 6 r0 5 (37 : Int32) := ⟨_, rfl⟩
    have h := h μ_37 eμ_37
    refine g_mem eμ_37.symm ?_
    exact g_vret dX6_readSign_266 rfl ⟨rfl, h⟩
  by_cases c_4_49 : x1_2 = (49 : Int32)
  · refine g_tableIn (off := 239) (tgt := 260) dX6_readSign_21 (by rw [c_4_49]; decide) (by rw [c_4_49]; decide) (by rw [c_4_49]; rfl) (by decide) ?_
    have h := h.2.2.2.2.2.2.2.2.2.2 (⟨by rw [c_4_49]; decide, by rw [c_4_49]; decide, by rw [c_4_49]; decide, by rw [c_4_49]; decide, by rw [c_4_49]; decide, by rw [c_4_49]; decide, by rw [c_4_49]; decide, by rw [c_4_49]; decide, by rw [c_4_49]; decide, by rw [c_4_49]; decide⟩)
    refine g_aload_n dX6_readSign_260 rfl ?_
    refine g_bipush (37 : Int32) dX6_readSign_261 rfl ?_
    refine g_pfI fi_6_58 hr0 rfl rfl dX6_readSign_263 ?_
    obtain ⟨μ_37, eμ_37⟩ : ∃ z : gMem, z = gsI μ_3 6 r0 5 (37 : Int32) := ⟨_, rfl⟩
    have h := h μ_37 eμ_37
    refine g_mem eμ_37.symm ?_
    exact g_vret dX6_readSign_266 rfl ⟨rfl, h⟩
  by_cases c_4_50 : x1_2 = (50 : Int32)
  · refine g_tableIn (off := 239) (tgt := 260) dX6_readSign_21 (by rw [c_4_50]; decide) (by rw [c_4_50]; decide) (by rw [c_4_50]; rfl) (by decide) ?_
    have h := h.2.2.2.2.2.2.2.2.2.2 (⟨by rw [c_4_50]; decide, by rw [c_4_50]; decide, by rw [c_4_50]; decide, by rw [c_4_50]; decide, by rw [c_4_50]; decide, by rw [c_4_50]; decide, by rw [c_4_50]; decide, by rw [c_4_50]; decide, by rw [c_4_50]; decide, by rw [c_4_50]; decide⟩)
    refine g_aload_n dX6_readSign_260 rfl ?_
    refine g_bipush (37 : Int32) dX6_readSign_261 rfl ?_
    refine g_pfI fi_6_58 hr0 rfl rfl dX6_readSign_263 ?_
    obtain ⟨μ_37, eμ_37⟩ : ∃ z : gMem, z = gsI μ_3 6 r0 5 (37 : Int32) := ⟨_, rfl⟩
    have h := h μ_37 eμ_37
    refine g_mem eμ_37.symm ?_
    exact g_vret dX6_readSign_266 rfl ⟨rfl, h⟩
  by_cases c_4_51 : x1_2 = (51 : Int32)
  · refine g_tableIn (off := 239) (tgt := 260) dX6_readSign_21 (by rw [c_4_51]; decide) (by rw [c_4_51]; decide) (by rw [c_4_51]; rfl) (by decide) ?_
    have h := h.2.2.2.2.2.2.2.2.2.2 (⟨by rw [c_4_51]; decide, by rw [c_4_51]; decide, by rw [c_4_51]; decide, by rw [c_4_51]; decide, by rw [c_4_51]; decide, by rw [c_4_51]; decide, by rw [c_4_51]; decide, by rw [c_4_51]; decide, by rw [c_4_51]; decide, by rw [c_4_51]; decide⟩)
    refine g_aload_n dX6_readSign_260 rfl ?_
    refine g_bipush (37 : Int32) dX6_readSign_261 rfl ?_
    refine g_pfI fi_6_58 hr0 rfl rfl dX6_readSign_263 ?_
    obtain ⟨μ_37, eμ_37⟩ : ∃ z : gMem, z = gsI μ_3 6 r0 5 (37 : Int32) := ⟨_, rfl⟩
    have h := h μ_37 eμ_37
    refine g_mem eμ_37.symm ?_
    exact g_vret dX6_readSign_266 rfl ⟨rfl, h⟩
  by_cases c_4_52 : x1_2 = (52 : Int32)
  · refine g_tableIn (off := 239) (tgt := 260) dX6_readSign_21 (by rw [c_4_52]; decide) (by rw [c_4_52]; decide) (by rw [c_4_52]; rfl) (by decide) ?_
    have h := h.2.2.2.2.2.2.2.2.2.2 (⟨by rw [c_4_52]; decide, by rw [c_4_52]; decide, by rw [c_4_52]; decide, by rw [c_4_52]; decide, by rw [c_4_52]; decide, by rw [c_4_52]; decide, by rw [c_4_52]; decide, by rw [c_4_52]; decide, by rw [c_4_52]; decide, by rw [c_4_52]; decide⟩)
    refine g_aload_n dX6_readSign_260 rfl ?_
    refine g_bipush (37 : Int32) dX6_readSign_261 rfl ?_
    refine g_pfI fi_6_58 hr0 rfl rfl dX6_readSign_263 ?_
    obtain ⟨μ_37, eμ_37⟩ : ∃ z : gMem, z = gsI μ_3 6 r0 5 (37 : Int32) := ⟨_, rfl⟩
    have h := h μ_37 eμ_37
    refine g_mem eμ_37.symm ?_
    exact g_vret dX6_readSign_266 rfl ⟨rfl, h⟩
  by_cases c_4_53 : x1_2 = (53 : Int32)
  · refine g_tableIn (off := 239) (tgt := 260) dX6_readSign_21 (by rw [c_4_53]; decide) (by rw [c_4_53]; decide) (by rw [c_4_53]; rfl) (by decide) ?_
    have h := h.2.2.2.2.2.2.2.2.2.2 (⟨by rw [c_4_53]; decide, by rw [c_4_53]; decide, by rw [c_4_53]; decide, by rw [c_4_53]; decide, by rw [c_4_53]; decide, by rw [c_4_53]; decide, by rw [c_4_53]; decide, by rw [c_4_53]; decide, by rw [c_4_53]; decide, by rw [c_4_53]; decide⟩)
    refine g_aload_n dX6_readSign_260 rfl ?_
    refine g_bipush (37 : Int32) dX6_readSign_261 rfl ?_
    refine g_pfI fi_6_58 hr0 rfl rfl dX6_readSign_263 ?_
    obtain ⟨μ_37, eμ_37⟩ : ∃ z : gMem, z = gsI μ_3 6 r0 5 (37 : Int32) := ⟨_, rfl⟩
    have h := h μ_37 eμ_37
    refine g_mem eμ_37.symm ?_
    exact g_vret dX6_readSign_266 rfl ⟨rfl, h⟩
  by_cases c_4_54 : x1_2 = (54 : Int32)
  · refine g_tableIn (off := 239) (tgt := 260) dX6_readSign_21 (by rw [c_4_54]; decide) (by rw [c_4_54]; decide) (by rw [c_4_54]; rfl) (by decide) ?_
    have h := h.2.2.2.2.2.2.2.2.2.2 (⟨by rw [c_4_54]; decide, by rw [c_4_54]; decide, by rw [c_4_54]; decide, by rw [c_4_54]; decide, by rw [c_4_54]; decide, by rw [c_4_54]; decide, by rw [c_4_54]; decide, by rw [c_4_54]; decide, by rw [c_4_54]; decide, by rw [c_4_54]; decide⟩)
    refine g_aload_n dX6_readSign_260 rfl ?_
    refine g_bipush (37 : Int32) dX6_readSign_261 rfl ?_
    refine g_pfI fi_6_58 hr0 rfl rfl dX6_readSign_263 ?_
    obtain ⟨μ_37, eμ_37⟩ : ∃ z : gMem, z = gsI μ_3 6 r0 5 (37 : Int32) := ⟨_, rfl⟩
    have h := h μ_37 eμ_37
    refine g_mem eμ_37.symm ?_
    exact g_vret dX6_readSign_266 rfl ⟨rfl, h⟩
  by_cases c_4_55 : x1_2 = (55 : Int32)
  · refine g_tableIn (off := 239) (tgt := 260) dX6_readSign_21 (by rw [c_4_55]; decide) (by rw [c_4_55]; decide) (by rw [c_4_55]; rfl) (by decide) ?_
    have h := h.2.2.2.2.2.2.2.2.2.2 (⟨by rw [c_4_55]; decide, by rw [c_4_55]; decide, by rw [c_4_55]; decide, by rw [c_4_55]; decide, by rw [c_4_55]; decide, by rw [c_4_55]; decide, by rw [c_4_55]; decide, by rw [c_4_55]; decide, by rw [c_4_55]; decide, by rw [c_4_55]; decide⟩)
    refine g_aload_n dX6_readSign_260 rfl ?_
    refine g_bipush (37 : Int32) dX6_readSign_261 rfl ?_
    refine g_pfI fi_6_58 hr0 rfl rfl dX6_readSign_263 ?_
    obtain ⟨μ_37, eμ_37⟩ : ∃ z : gMem, z = gsI μ_3 6 r0 5 (37 : Int32) := ⟨_, rfl⟩
    have h := h μ_37 eμ_37
    refine g_mem eμ_37.symm ?_
    exact g_vret dX6_readSign_266 rfl ⟨rfl, h⟩
  by_cases c_4_56 : x1_2 = (56 : Int32)
  · refine g_tableIn (off := 239) (tgt := 260) dX6_readSign_21 (by rw [c_4_56]; decide) (by rw [c_4_56]; decide) (by rw [c_4_56]; rfl) (by decide) ?_
    have h := h.2.2.2.2.2.2.2.2.2.2 (⟨by rw [c_4_56]; decide, by rw [c_4_56]; decide, by rw [c_4_56]; decide, by rw [c_4_56]; decide, by rw [c_4_56]; decide, by rw [c_4_56]; decide, by rw [c_4_56]; decide, by rw [c_4_56]; decide, by rw [c_4_56]; decide, by rw [c_4_56]; decide⟩)
    refine g_aload_n dX6_readSign_260 rfl ?_
    refine g_bipush (37 : Int32) dX6_readSign_261 rfl ?_
    refine g_pfI fi_6_58 hr0 rfl rfl dX6_readSign_263 ?_
    obtain ⟨μ_37, eμ_37⟩ : ∃ z : gMem, z = gsI μ_3 6 r0 5 (37 : Int32) := ⟨_, rfl⟩
    have h := h μ_37 eμ_37
    refine g_mem eμ_37.symm ?_
    exact g_vret dX6_readSign_266 rfl ⟨rfl, h⟩
  by_cases c_4_57 : x1_2 = (57 : Int32)
  · refine g_tableIn (off := 239) (tgt := 260) dX6_readSign_21 (by rw [c_4_57]; decide) (by rw [c_4_57]; decide) (by rw [c_4_57]; rfl) (by decide) ?_
    have h := h.2.2.2.2.2.2.2.2.2.2 (⟨by rw [c_4_57]; decide, by rw [c_4_57]; decide, by rw [c_4_57]; decide, by rw [c_4_57]; decide, by rw [c_4_57]; decide, by rw [c_4_57]; decide, by rw [c_4_57]; decide, by rw [c_4_57]; decide, by rw [c_4_57]; decide, by rw [c_4_57]; decide⟩)
    refine g_aload_n dX6_readSign_260 rfl ?_
    refine g_bipush (37 : Int32) dX6_readSign_261 rfl ?_
    refine g_pfI fi_6_58 hr0 rfl rfl dX6_readSign_263 ?_
    obtain ⟨μ_37, eμ_37⟩ : ∃ z : gMem, z = gsI μ_3 6 r0 5 (37 : Int32) := ⟨_, rfl⟩
    have h := h μ_37 eμ_37
    refine g_mem eμ_37.symm ?_
    exact g_vret dX6_readSign_266 rfl ⟨rfl, h⟩
  by_cases c_4_58 : x1_2 = (58 : Int32)
  · refine g_tableIn (off := 239) (tgt := 260) dX6_readSign_21 (by rw [c_4_58]; decide) (by rw [c_4_58]; decide) (by rw [c_4_58]; rfl) (by decide) ?_
    have h := h.2.2.2.2.2.2.2.2.2.2 (⟨by rw [c_4_58]; decide, by rw [c_4_58]; decide, by rw [c_4_58]; decide, by rw [c_4_58]; decide, by rw [c_4_58]; decide, by rw [c_4_58]; decide, by rw [c_4_58]; decide, by rw [c_4_58]; decide, by rw [c_4_58]; decide, by rw [c_4_58]; decide⟩)
    refine g_aload_n dX6_readSign_260 rfl ?_
    refine g_bipush (37 : Int32) dX6_readSign_261 rfl ?_
    refine g_pfI fi_6_58 hr0 rfl rfl dX6_readSign_263 ?_
    obtain ⟨μ_37, eμ_37⟩ : ∃ z : gMem, z = gsI μ_3 6 r0 5 (37 : Int32) := ⟨_, rfl⟩
    have h := h μ_37 eμ_37
    refine g_mem eμ_37.symm ?_
    exact g_vret dX6_readSign_266 rfl ⟨rfl, h⟩
  by_cases c_4_59 : x1_2 = (59 : Int32)
  · refine g_tableIn (off := 230) (tgt := 251) dX6_readSign_21 (by rw [c_4_59]; decide) (by rw [c_4_59]; decide) (by rw [c_4_59]; rfl) (by decide) ?_
    have h := h.2.2.2.2.2.2.1 c_4_59
    refine g_aload_n dX6_readSign_251 rfl ?_
    refine g_bipush (33 : Int32) dX6_readSign_252 rfl ?_
    refine g_pfI fi_6_58 hr0 rfl rfl dX6_readSign_254 ?_
    obtain ⟨μ_36, eμ_36⟩ : ∃ z : gMem, z = gsI μ_3 6 r0 5 (33 : Int32) := ⟨_, rfl⟩
    have h := h μ_36 eμ_36
    refine g_mem eμ_36.symm ?_
    refine g_goto (tgt := 266) dX6_readSign_257 (by decide) ?_
    exact g_vret dX6_readSign_266 rfl ⟨rfl, h⟩
  by_cases c_4_60 : x1_2 = (60 : Int32)
  · refine g_tableIn (off := 107) (tgt := 128) dX6_readSign_21 (by rw [c_4_60]; decide) (by rw [c_4_60]; decide) (by rw [c_4_60]; rfl) (by decide) ?_
    have h := h.2.2.2.2.2.2.2.1 c_4_60
    refine g_aload_n dX6_readSign_128 rfl ?_
    refine g_aload_n dX6_readSign_129 rfl ?_
    refine g_bipush (61 : Int32) dX6_readSign_130 rfl ?_
    obtain ⟨d_5, q_6, hd_7, hc_8, h⟩ := h
    refine g_cV ca_X6_82 ob_6 hc_8 hd_7 (by decide) hr0 rfl rfl (by first | exact Nat.le_of_ble_eq_true rfl | decide) dX6_readSign_132 (kI (fun v_10 μ_9 hq_11 => ?_))
    have h := h v_10 μ_9 hq_11
    refine g_if_eq (tgt := 143) dX6_readSign_135 (by decide) (fun c_12 => ?_) (fun c_12 => ?_)
    · have h := h.1 c_12
      refine g_aload_n dX6_readSign_143 rfl ?_
      refine g_bipush (62 : Int32) dX6_readSign_144 rfl ?_
      obtain ⟨d_13, q_14, hd_15, hc_16, h⟩ := h
      refine g_cV ca_X6_82 ob_6 hc_16 hd_15 (by decide) hr0 rfl rfl (by first | exact Nat.le_of_ble_eq_true rfl | decide) dX6_readSign_146 (kI (fun v_18 μ_17 hq_19 => ?_))
      have h := h v_18 μ_17 hq_19
      refine g_if_eq (tgt := 157) dX6_readSign_149 (by decide) (fun c_20 => ?_) (fun c_20 => ?_)
      · have h := h.1 c_20
        refine g_bipush (21 : Int32) dX6_readSign_157 rfl ?_
        exact g_sub [] rfl h
      · have h := h.2 c_20
        refine g_bipush (24 : Int32) dX6_readSign_152 rfl ?_
        refine g_goto (tgt := 159) dX6_readSign_154 (by decide) ?_
        exact g_sub [] rfl h
    · have h := h.2 c_12
      refine g_bipush (22 : Int32) dX6_readSign_138 rfl ?_
      refine g_goto (tgt := 159) dX6_readSign_140 (by decide) ?_
      exact g_sub [] rfl h
  by_cases c_4_61 : x1_2 = (61 : Int32)
  · refine g_tableIn (off := 167) (tgt := 188) dX6_readSign_21 (by rw [c_4_61]; decide) (by rw [c_4_61]; decide) (by rw [c_4_61]; rfl) (by decide) ?_
    have h := h.2.2.2.2.2.2.2.2.1 c_4_61
    refine g_aload_n dX6_readSign_188 rfl ?_
    refine g_bipush (23 : Int32) dX6_readSign_189 rfl ?_
    refine g_pfI fi_6_58 hr0 rfl rfl dX6_readSign_191 ?_
    obtain ⟨μ_29, eμ_29⟩ : ∃ z : gMem, z = gsI μ_3 6 r0 5 (23 : Int32) := ⟨_, rfl⟩
    have h := h μ_29 eμ_29
    refine g_mem eμ_29.symm ?_
    refine g_goto (tgt := 266) dX6_readSign_194 (by decide) ?_
    exact g_vret dX6_readSign_266 rfl ⟨rfl, h⟩
  by_cases c_4_62 : x1_2 = (62 : Int32)
  · refine g_tableIn (off := 144) (tgt := 165) dX6_readSign_21 (by rw [c_4_62]; decide) (by rw [c_4_62]; decide) (by rw [c_4_62]; rfl) (by decide) ?_
    have h := h.2.2.2.2.2.2.2.2.2.1 c_4_62
    refine g_aload_n dX6_readSign_165 rfl ?_
    refine g_aload_n dX6_readSign_166 rfl ?_
    refine g_bipush (61 : Int32) dX6_readSign_167 rfl ?_
    obtain ⟨d_21, q_22, hd_23, hc_24, h⟩ := h
    refine g_cV ca_X6_82 ob_6 hc_24 hd_23 (by decide) hr0 rfl rfl (by first | exact Nat.le_of_ble_eq_true rfl | decide) dX6_readSign_169 (kI (fun v_26 μ_25 hq_27 => ?_))
    have h := h v_26 μ_25 hq_27
    refine g_if_eq (tgt := 180) dX6_readSign_172 (by decide) (fun c_28 => ?_) (fun c_28 => ?_)
    · have h := h.1 c_28
      refine g_bipush (26 : Int32) dX6_readSign_180 rfl ?_
      exact g_sub [] rfl h
    · have h := h.2 c_28
      refine g_bipush (25 : Int32) dX6_readSign_175 rfl ?_
      refine g_goto (tgt := 182) dX6_readSign_177 (by decide) ?_
      exact g_sub [] rfl h
  have c_4_o : (x1_2).toInt < 40 ∨ 62 < (x1_2).toInt := by
    have := lv_neT c_4_40 (a := 40) rfl
    have := lv_neT c_4_41 (a := 41) rfl
    have := lv_neT c_4_42 (a := 42) rfl
    have := lv_neT c_4_43 (a := 43) rfl
    have := lv_neT c_4_44 (a := 44) rfl
    have := lv_neT c_4_45 (a := 45) rfl
    have := lv_neT c_4_46 (a := 46) rfl
    have := lv_neT c_4_47 (a := 47) rfl
    have := lv_neT c_4_48 (a := 48) rfl
    have := lv_neT c_4_49 (a := 49) rfl
    have := lv_neT c_4_50 (a := 50) rfl
    have := lv_neT c_4_51 (a := 51) rfl
    have := lv_neT c_4_52 (a := 52) rfl
    have := lv_neT c_4_53 (a := 53) rfl
    have := lv_neT c_4_54 (a := 54) rfl
    have := lv_neT c_4_55 (a := 55) rfl
    have := lv_neT c_4_56 (a := 56) rfl
    have := lv_neT c_4_57 (a := 57) rfl
    have := lv_neT c_4_58 (a := 58) rfl
    have := lv_neT c_4_59 (a := 59) rfl
    have := lv_neT c_4_60 (a := 60) rfl
    have := lv_neT c_4_61 (a := 61) rfl
    have := lv_neT c_4_62 (a := 62) rfl
    omega
  refine g_tableOut (tgt := 260) dX6_readSign_21 c_4_o (by decide) ?_
  have h := h.2.2.2.2.2.2.2.2.2.2 ⟨c_4_40, c_4_41, c_4_42, c_4_43, c_4_45, c_4_47, c_4_59, c_4_60, c_4_61, c_4_62⟩
  refine g_aload_n dX6_readSign_260 rfl ?_
  refine g_bipush (37 : Int32) dX6_readSign_261 rfl ?_
  refine g_pfI fi_6_58 hr0 rfl rfl dX6_readSign_263 ?_
  obtain ⟨μ_37, eμ_37⟩ : ∃ z : gMem, z = gsI μ_3 6 r0 5 (37 : Int32) := ⟨_, rfl⟩
  have h := h μ_37 eμ_37
  refine g_mem eμ_37.symm ?_
  exact g_vret dX6_readSign_266 rfl ⟨rfl, h⟩
set_option maxRecDepth 20000 in
set_option maxHeartbeats 4000000 in
theorem bl_X6_readSign_1 {l : Launch} {D : gD} {d : Nat} {q : gMem → Prop} {Γ : gC} {rs0 : Nat} {xs1 : Int32} {μ : gMem} (hrs0 : rs0 < 1) (h : ∀ μ_1 : gMem, μ_1 = gsI μ 6 rs0 5 xs1 → q μ_1) : pt_X6_readSign_1 l D d q Γ rs0 xs1 μ := by
  unfold pt_X6_readSign_1
  refine g_pfI fi_6_58 hrs0 rfl rfl dX6_readSign_159 ?_
  obtain ⟨μ_1, eμ_1⟩ : ∃ z : gMem, z = gsI μ 6 rs0 5 xs1 := ⟨_, rfl⟩
  have h := h μ_1 eμ_1
  refine g_mem eμ_1.symm ?_
  refine g_goto (tgt := 266) dX6_readSign_162 (by decide) ?_
  exact g_vret dX6_readSign_266 rfl ⟨rfl, h⟩
set_option maxRecDepth 20000 in
set_option maxHeartbeats 4000000 in
theorem bl_X6_readSign_2 {l : Launch} {D : gD} {d : Nat} {q : gMem → Prop} {Γ : gC} {rs0 : Nat} {xs1 : Int32} {μ : gMem} (hrs0 : rs0 < 1) (h : ∀ μ_1 : gMem, μ_1 = gsI μ 6 rs0 5 xs1 → q μ_1) : pt_X6_readSign_2 l D d q Γ rs0 xs1 μ := by
  unfold pt_X6_readSign_2
  refine g_pfI fi_6_58 hrs0 rfl rfl dX6_readSign_182 ?_
  obtain ⟨μ_1, eμ_1⟩ : ∃ z : gMem, z = gsI μ 6 rs0 5 xs1 := ⟨_, rfl⟩
  have h := h μ_1 eμ_1
  refine g_mem eμ_1.symm ?_
  refine g_goto (tgt := 266) dX6_readSign_185 (by decide) ?_
  exact g_vret dX6_readSign_266 rfl ⟨rfl, h⟩
theorem en_X6_readSign {l : Launch} {D : gD} {d : Nat} {q : gMem → Prop} {r0 : Nat} {μ : gMem} (h : ∀ Γ : gC, pt_X6_readSign_0 l D d q Γ r0 μ) : Ctr l D d yX6_readSign cX6_readSign 2 none [.ref (D.2.2 6 r0)] μ (pV q) :=
  Ctr_of rfl (by decide) (Nat.le_of_ble_eq_true rfl) (fun Γ => g_sub [0] rfl (h Γ))
def pt_X6_takes_0 (l : Launch) (D : gD) (d : Nat) (q : Int32 → gMem → Prop) (Γ : gC) (r0 : Nat) (x1 : Int32) (μ : gMem) : Prop := G l D RX6 cX6_takes 2 (some .boolean) d (pI q) Γ 0 [(0, .ref (D.2.2 6 r0)), (1, .int x1)] [] μ
set_option maxRecDepth 20000 in
set_option maxHeartbeats 4000000 in
theorem bl_X6_takes_0 {l : Launch} {D : gD} {d : Nat} {q : Int32 → gMem → Prop} {Γ : gC} {r0 : Nat} {x1 : Int32} {μ : gMem} (hr0 : r0 < 1) (h : (((μ.1 6 r0 3) ≤ (μ.1 6 r0 4)) → q (0 : Int32) μ) ∧ ((¬ (μ.1 6 r0 3) ≤ (μ.1 6 r0 4)) → ∃ j_2 : Nat, j_2 < 700 ∧ μ.1 6 r0 4 = nI j_2 ∧ (((¬ (μ.1 448 r0 j_2) = x1) → q (0 : Int32) μ) ∧ (((μ.1 448 r0 j_2) = x1) → ∀ μ_4 : gMem, μ_4 = gsI μ 6 r0 4 ((μ.1 6 r0 4) + (1 : Int32)) → q (1 : Int32) μ_4)))) : pt_X6_takes_0 l D d q Γ r0 x1 μ := by
  unfold pt_X6_takes_0
  refine g_aload_n dX6_takes_0 rfl ?_
  refine g_gfI fi_6_46 hr0 dX6_takes_1 ?_
  refine g_aload_n dX6_takes_4 rfl ?_
  refine g_gfI fi_6_44 hr0 dX6_takes_5 ?_
  refine g_icmp_ge (tgt := 36) dX6_takes_8 (by decide) (fun c_1 => ?_) (fun c_1 => ?_)
  · have h := h.1 c_1
    refine g_iconst (0 : Int32) dX6_takes_36 rfl ?_
    exact g_iret dX6_takes_37 rfl rfl ⟨_, rfl, h⟩
  · have h := h.2 c_1
    refine g_aload_n dX6_takes_11 rfl ?_
    refine g_gfR fl_6_9 rfl hr0 dX6_takes_12 ?_
    refine g_aload_n dX6_takes_15 rfl ?_
    refine g_gfI fi_6_46 hr0 dX6_takes_16 ?_
    obtain ⟨j_2, hj_2, ej_2, h⟩ := h
    refine g_bald j_2 hr0 rfl hj_2 (by decide) ej_2 dX6_takes_19 ?_
    refine g_iload_n dX6_takes_20 rfl ?_
    refine g_icmp_ne (tgt := 36) dX6_takes_21 (by decide) (fun c_3 => ?_) (fun c_3 => ?_)
    · have h := h.1 c_3
      refine g_iconst (0 : Int32) dX6_takes_36 rfl ?_
      exact g_iret dX6_takes_37 rfl rfl ⟨_, rfl, h⟩
    · have h := h.2 c_3
      refine g_aload_n dX6_takes_24 rfl ?_
      refine g_dup dX6_takes_25 rfl ?_
      refine g_gfI fi_6_46 hr0 dX6_takes_26 ?_
      refine g_iconst (1 : Int32) dX6_takes_29 rfl ?_
      refine g_iadd dX6_takes_30 ?_
      refine g_pfI fi_6_46 hr0 rfl rfl dX6_takes_31 ?_
      obtain ⟨μ_4, eμ_4⟩ : ∃ z : gMem, z = gsI μ 6 r0 4 ((μ.1 6 r0 4) + (1 : Int32)) := ⟨_, rfl⟩
      have h := h μ_4 eμ_4
      refine g_mem eμ_4.symm ?_
      refine g_iconst (1 : Int32) dX6_takes_34 rfl ?_
      exact g_iret dX6_takes_35 rfl rfl ⟨_, rfl, h⟩
theorem en_X6_takes {l : Launch} {D : gD} {d : Nat} {q : Int32 → gMem → Prop} {r0 : Nat} {x1 : Int32} {μ : gMem} (h : ∀ Γ : gC, pt_X6_takes_0 l D d q Γ r0 x1 μ) : Ctr l D d yX6_takes cX6_takes 2 (some .boolean) [.ref (D.2.2 6 r0), .int x1] μ (pI q) :=
  Ctr_of rfl (by decide) (Nat.le_of_ble_eq_true rfl) (fun Γ => g_sub [0, 1] rfl (h Γ))
def pt_X7_clear_0 (l : Launch) (D : gD) (d : Nat) (q : gMem → Prop) (Γ : gC) (r0 : Nat) (μ : gMem) : Prop := G l D RX7 cX7_clear 1 none d (pV q) Γ 0 [(0, .ref (D.2.2 7 r0))] [] μ
set_option maxRecDepth 20000 in
set_option maxHeartbeats 4000000 in
theorem bl_X7_clear_0 {l : Launch} {D : gD} {d : Nat} {q : gMem → Prop} {Γ : gC} {r0 : Nat} {μ : gMem} (hr0 : r0 < 2) (h : ∀ μ_1 : gMem, μ_1 = gsI μ 7 r0 0 (0 : Int32) → ∀ μ_2 : gMem, μ_2 = gsI μ_1 7 r0 5 (0 : Int32) → ∀ μ_3 : gMem, μ_3 = gsI μ_2 7 r0 10 (0 : Int32) → ∃ (d_4 : Nat) (q_5 : gMem → Prop), d_4 < d ∧ Ctr l D d_4 yJ7_fill_53178 cJ7_fill_53178 4 none [.ref (D.2.2 523 r0), .int (0 : Int32)] μ_3 (pV q_5) ∧ ∀ (μ_8 : gMem), q_5 μ_8 → ∀ μ_11 : gMem, μ_11 = gsI μ_8 7 r0 12 (0 : Int32) → ∀ μ_12 : gMem, μ_12 = gsI μ_11 7 r0 13 (7 : Int32) → ∀ μ_13 : gMem, μ_13 = gsI μ_12 7 r0 14 (0 : Int32) → ∀ μ_14 : gMem, μ_14 = gsI μ_13 7 r0 15 (0 : Int32) → ∀ μ_15 : gMem, μ_15 = gsI μ_14 7 r0 16 (0 : Int32) → ∀ μ_16 : gMem, μ_16 = gsI μ_15 7 r0 17 (0 : Int32) → ∃ (d_17 : Nat) (q_18 : gMem → Prop), d_17 < d ∧ Ctr l D d_17 yX2_clear cX2_clear 1 none [.ref (D.2.2 2 r0)] μ_16 (pV q_18) ∧ ∀ (μ_21 : gMem), q_18 μ_21 → q μ_21) : pt_X7_clear_0 l D d q Γ r0 μ := by
  unfold pt_X7_clear_0
  refine g_aload_n dX7_clear_0 rfl ?_
  refine g_iconst (0 : Int32) dX7_clear_1 rfl ?_
  refine g_pfI fi_7_53 hr0 rfl rfl dX7_clear_2 ?_
  obtain ⟨μ_1, eμ_1⟩ : ∃ z : gMem, z = gsI μ 7 r0 0 (0 : Int32) := ⟨_, rfl⟩
  have h := h μ_1 eμ_1
  refine g_mem eμ_1.symm ?_
  refine g_aload_n dX7_clear_5 rfl ?_
  refine g_iconst (0 : Int32) dX7_clear_6 rfl ?_
  refine g_pfI fi_7_56 hr0 rfl rfl dX7_clear_7 ?_
  obtain ⟨μ_2, eμ_2⟩ : ∃ z : gMem, z = gsI μ_1 7 r0 5 (0 : Int32) := ⟨_, rfl⟩
  have h := h μ_2 eμ_2
  refine g_mem eμ_2.symm ?_
  refine g_aload_n dX7_clear_10 rfl ?_
  refine g_iconst (0 : Int32) dX7_clear_11 rfl ?_
  refine g_pfI fi_7_59 hr0 rfl rfl dX7_clear_12 ?_
  obtain ⟨μ_3, eμ_3⟩ : ∃ z : gMem, z = gsI μ_2 7 r0 10 (0 : Int32) := ⟨_, rfl⟩
  have h := h μ_3 eμ_3
  refine g_mem eμ_3.symm ?_
  refine g_aload_n dX7_clear_15 rfl ?_
  refine g_gfR fl_7_36 rfl hr0 dX7_clear_16 ?_
  refine g_iconst (0 : Int32) dX7_clear_19 rfl ?_
  obtain ⟨d_4, q_5, hd_6, hc_7, h⟩ := h
  refine g_callS ca_X7_62 hc_7 hd_6 (by decide) rfl rfl (by first | exact Nat.le_of_ble_eq_true rfl | decide) dX7_clear_20 (kV (fun μ_8 hq_10 => ?_))
  have h := h μ_8 hq_10
  refine g_aload_n dX7_clear_23 rfl ?_
  refine g_iconst (0 : Int32) dX7_clear_24 rfl ?_
  refine g_pfI fi_7_39 hr0 rfl rfl dX7_clear_25 ?_
  obtain ⟨μ_11, eμ_11⟩ : ∃ z : gMem, z = gsI μ_8 7 r0 12 (0 : Int32) := ⟨_, rfl⟩
  have h := h μ_11 eμ_11
  refine g_mem eμ_11.symm ?_
  refine g_aload_n dX7_clear_28 rfl ?_
  refine g_bipush (7 : Int32) dX7_clear_29 rfl ?_
  refine g_pfI fi_7_43 hr0 rfl rfl dX7_clear_31 ?_
  obtain ⟨μ_12, eμ_12⟩ : ∃ z : gMem, z = gsI μ_11 7 r0 13 (7 : Int32) := ⟨_, rfl⟩
  have h := h μ_12 eμ_12
  refine g_mem eμ_12.symm ?_
  refine g_aload_n dX7_clear_34 rfl ?_
  refine g_iconst (0 : Int32) dX7_clear_35 rfl ?_
  refine g_pfI fi_7_68 hr0 rfl rfl dX7_clear_36 ?_
  obtain ⟨μ_13, eμ_13⟩ : ∃ z : gMem, z = gsI μ_12 7 r0 14 (0 : Int32) := ⟨_, rfl⟩
  have h := h μ_13 eμ_13
  refine g_mem eμ_13.symm ?_
  refine g_aload_n dX7_clear_39 rfl ?_
  refine g_iconst (0 : Int32) dX7_clear_40 rfl ?_
  refine g_pfI fi_7_71 hr0 rfl rfl dX7_clear_41 ?_
  obtain ⟨μ_14, eμ_14⟩ : ∃ z : gMem, z = gsI μ_13 7 r0 15 (0 : Int32) := ⟨_, rfl⟩
  have h := h μ_14 eμ_14
  refine g_mem eμ_14.symm ?_
  refine g_aload_n dX7_clear_44 rfl ?_
  refine g_iconst (0 : Int32) dX7_clear_45 rfl ?_
  refine g_pfI fi_7_74 hr0 rfl rfl dX7_clear_46 ?_
  obtain ⟨μ_15, eμ_15⟩ : ∃ z : gMem, z = gsI μ_14 7 r0 16 (0 : Int32) := ⟨_, rfl⟩
  have h := h μ_15 eμ_15
  refine g_mem eμ_15.symm ?_
  refine g_aload_n dX7_clear_49 rfl ?_
  refine g_iconst (0 : Int32) dX7_clear_50 rfl ?_
  refine g_pfI fi_7_77 hr0 rfl rfl dX7_clear_51 ?_
  obtain ⟨μ_16, eμ_16⟩ : ∃ z : gMem, z = gsI μ_15 7 r0 17 (0 : Int32) := ⟨_, rfl⟩
  have h := h μ_16 eμ_16
  refine g_mem eμ_16.symm ?_
  refine g_aload_n dX7_clear_54 rfl ?_
  refine g_gfR fl_7_49 rfl hr0 dX7_clear_55 ?_
  obtain ⟨d_17, q_18, hd_19, hc_20, h⟩ := h
  refine g_cV ca_X7_80 ob_2 hc_20 hd_19 (by decide) hr0 rfl rfl (by first | exact Nat.le_of_ble_eq_true rfl | decide) dX7_clear_58 (kV (fun μ_21 hq_23 => ?_))
  have h := h μ_21 hq_23
  exact g_vret dX7_clear_61 rfl ⟨rfl, h⟩
theorem en_X7_clear {l : Launch} {D : gD} {d : Nat} {q : gMem → Prop} {r0 : Nat} {μ : gMem} (h : ∀ Γ : gC, pt_X7_clear_0 l D d q Γ r0 μ) : Ctr l D d yX7_clear cX7_clear 1 none [.ref (D.2.2 7 r0)] μ (pV q) :=
  Ctr_of rfl (by decide) (Nat.le_of_ble_eq_true rfl) (fun Γ => g_sub [0] rfl (h Γ))
def pt_X7_inPlan_0 (l : Launch) (D : gD) (d : Nat) (q : Int32 → gMem → Prop) (Γ : gC) (r0 : Nat) (k1 : Nat) (i1 : Nat) (k2 : Nat) (i2 : Nat) (μ : gMem) : Prop := G l D RX7 cX7_inPlan 5 (some .int) d (pI q) Γ 0 [(0, .ref (D.2.2 7 r0)), (1, .ref (D.2.2 k1 i1)), (2, .ref (D.2.2 k2 i2))] [] μ
def pt_X7_inPlan_1 (l : Launch) (D : gD) (d : Nat) (q : Int32 → gMem → Prop) (Γ : gC) (r0 : Nat) (k1 : Nat) (i1 : Nat) (k2 : Nat) (i2 : Nat) (x3 : Int32) (x4 : Int32) (μ : gMem) : Prop := G l D RX7 cX7_inPlan 5 (some .int) d (pI q) Γ 5 [(0, .ref (D.2.2 7 r0)), (1, .ref (D.2.2 k1 i1)), (2, .ref (D.2.2 k2 i2)), (3, .int x3), (4, .int x4)] [] μ
set_option maxRecDepth 20000 in
set_option maxHeartbeats 4000000 in
theorem bl_X7_inPlan_0 {l : Launch} {D : gD} {d : Nat} {q : Int32 → gMem → Prop} {Γ : gC} {r0 : Nat} {k1 : Nat} {i1 : Nat} {k2 : Nat} {i2 : Nat} {μ : gMem} (hr0 : r0 < 2) (hk1 : gsh k1 = (1, (gsh k1).2.1, 0)) (hi1 : i1 < gkn k1) (hk2 : gsh k2 = (1, (gsh k2).2.1, 0)) (hi2 : i2 < gkn k2) (h : ∀ x3_1 : Int32, x3_1 = (0 : Int32) → ∀ x4_2 : Int32, x4_2 = (0 : Int32) → pt_X7_inPlan_1 l D d q Γ r0 k1 i1 k2 i2 x3_1 x4_2 μ) : pt_X7_inPlan_0 l D d q Γ r0 k1 i1 k2 i2 μ := by
  unfold pt_X7_inPlan_0
  refine g_iconst (0 : Int32) dX7_inPlan_0 rfl ?_
  refine g_istore_n dX7_inPlan_1 (by decide) (fun x3_1 ex3_1 => g_sub (lv' := [(0, .ref (D.2.2 7 r0)), (1, .ref (D.2.2 k1 i1)), (2, .ref (D.2.2 k2 i2)), (3, .int x3_1)]) [1, 2, 3, 0] rfl ?_)
  have h := h x3_1 ex3_1
  refine g_iconst (0 : Int32) dX7_inPlan_2 rfl ?_
  refine g_istore dX7_inPlan_3 (by decide) (fun x4_2 ex4_2 => g_sub (lv' := [(0, .ref (D.2.2 7 r0)), (1, .ref (D.2.2 k1 i1)), (2, .ref (D.2.2 k2 i2)), (3, .int x3_1), (4, .int x4_2)]) [1, 2, 3, 4, 0] rfl ?_)
  have h := h x4_2 ex4_2
  exact g_sub [0, 1, 2, 3, 4] rfl h
set_option maxRecDepth 20000 in
set_option maxHeartbeats 4000000 in
theorem bl_X7_inPlan_1 {l : Launch} {D : gD} {d : Nat} {q : Int32 → gMem → Prop} {Γ : gC} {r0 : Nat} {k1 : Nat} {i1 : Nat} {k2 : Nat} {i2 : Nat} {x3 : Int32} {x4 : Int32} {μ : gMem} (hr0 : r0 < 2) (hk1 : gsh k1 = (1, (gsh k1).2.1, 0)) (hi1 : i1 < gkn k1) (hk2 : gsh k2 = (1, (gsh k2).2.1, 0)) (hi2 : i2 < gkn k2) (h : (((μ.1 7 r0 5) ≤ x4) → q x3 μ) ∧ ((¬ (μ.1 7 r0 5) ≤ x4) → ∃ j_2 : Nat, j_2 < (gsh k1).2.1 ∧ (gsh k1).2.1 < 2 ^ 31 ∧ x4 = nI j_2 ∧ (∃ j_4 : Nat, j_4 < (gsh k2).2.1 ∧ (gsh k2).2.1 < 2 ^ 31 ∧ x4 = nI j_4 ∧ (∀ x3_6 : Int32, x3_6 = x3 + ((μ.1 k1 i1 j_2) * (μ.1 k2 i2 j_4)) → ∀ x4_7 : Int32, x4_7 = x4 + (1 : Int32) → pt_X7_inPlan_1 l D d q Γ r0 k1 i1 k2 i2 x3_6 x4_7 μ)))) : pt_X7_inPlan_1 l D d q Γ r0 k1 i1 k2 i2 x3 x4 μ := by
  unfold pt_X7_inPlan_1
  refine g_iload dX7_inPlan_5 rfl ?_
  refine g_aload_n dX7_inPlan_7 rfl ?_
  refine g_gfI fi_7_56 hr0 dX7_inPlan_8 ?_
  refine g_icmp_ge (tgt := 32) dX7_inPlan_11 (by decide) (fun c_1 => ?_) (fun c_1 => ?_)
  · have h := h.1 c_1
    refine g_iload_n dX7_inPlan_32 rfl ?_
    exact g_iret dX7_inPlan_33 rfl rfl ⟨_, rfl, h⟩
  · have h := h.2 c_1
    refine g_iload_n dX7_inPlan_14 rfl ?_
    refine g_aload_n dX7_inPlan_15 rfl ?_
    refine g_iload dX7_inPlan_16 rfl ?_
    obtain ⟨j_2, hj_2, hn_3, ej_2, h⟩ := h
    refine g_iald j_2 hi1 hk1 hj_2 hn_3 ej_2 dX7_inPlan_18 ?_
    refine g_aload_n dX7_inPlan_19 rfl ?_
    refine g_iload dX7_inPlan_20 rfl ?_
    obtain ⟨j_4, hj_4, hn_5, ej_4, h⟩ := h
    refine g_iald j_4 hi2 hk2 hj_4 hn_5 ej_4 dX7_inPlan_22 ?_
    refine g_imul dX7_inPlan_23 ?_
    refine g_iadd dX7_inPlan_24 ?_
    refine g_istore_n dX7_inPlan_25 (by decide) (fun x3_6 ex3_6 => g_sub (lv' := [(0, .ref (D.2.2 7 r0)), (1, .ref (D.2.2 k1 i1)), (2, .ref (D.2.2 k2 i2)), (3, .int x3_6), (4, .int x4)]) [1, 2, 3, 0, 4] rfl ?_)
    have h := h x3_6 ex3_6
    refine g_iinc dX7_inPlan_26 rfl (by decide) (fun x4_7 ex4_7 => g_sub (lv' := [(0, .ref (D.2.2 7 r0)), (1, .ref (D.2.2 k1 i1)), (2, .ref (D.2.2 k2 i2)), (3, .int x3_6), (4, .int x4_7)]) [1, 2, 3, 4, 0] rfl ?_)
    have h := h x4_7 ex4_7
    refine g_goto (tgt := 5) dX7_inPlan_29 (by decide) ?_
    exact g_sub [0, 1, 2, 3, 4] rfl h
theorem en_X7_inPlan {l : Launch} {D : gD} {d : Nat} {q : Int32 → gMem → Prop} {r0 : Nat} {k1 : Nat} {i1 : Nat} {k2 : Nat} {i2 : Nat} {μ : gMem} (h : ∀ Γ : gC, pt_X7_inPlan_0 l D d q Γ r0 k1 i1 k2 i2 μ) : Ctr l D d yX7_inPlan cX7_inPlan 5 (some .int) [.ref (D.2.2 7 r0), .ref (D.2.2 k1 i1), .ref (D.2.2 k2 i2)] μ (pI q) :=
  Ctr_of rfl (by decide) (Nat.le_of_ble_eq_true rfl) (fun Γ => g_sub [0, 1, 2] rfl (h Γ))
