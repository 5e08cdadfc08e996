def pt_X2_joined_0 (l : Launch) (D : gD) (d : Nat) (q : Int64 → gMem → Prop) (Γ : gC) (x0 : Int32) (l1 : Int64) (l3 : Int64) (μ : gMem) : Prop := G l D RX2 cX2_joined 5 (some .long) d (pJ q) Γ 0 [(0, .int x0), (1, .long l1), (3, .long l3)] [] μ
def pt_X2_joined_1 (l : Launch) (D : gD) (d : Nat) (q : Int64 → gMem → Prop) (Γ : gC)  (μ : gMem) : Prop := G l D RX2 cX2_joined 5 (some .long) d (pJ q) Γ 206 [] [] μ
def pt_X2_joined_2 (l : Launch) (D : gD) (d : Nat) (q : Int64 → gMem → Prop) (Γ : gC)  (μ : gMem) : Prop := G l D RX2 cX2_joined 5 (some .long) d (pJ q) Γ 220 [] [] μ
set_option maxRecDepth 20000 in
set_option maxHeartbeats 4000000 in
theorem bl_X2_joined_0 {l : Launch} {D : gD} {d : Nat} {q : Int64 → gMem → Prop} {Γ : gC} {x0 : Int32} {l1 : Int64} {l3 : Int64} {μ : gMem}  (h : (x0 = (12 : Int32) → (((lg_cmp l1 (0 : Int64)) = 0) → pt_X2_joined_1 l D d q Γ  μ) ∧ ((¬ (lg_cmp l1 (0 : Int64)) = 0) → (((lg_cmp l3 (0 : Int64)) = 0) → pt_X2_joined_1 l D d q Γ  μ) ∧ ((¬ (lg_cmp l3 (0 : Int64)) = 0) → q (1 : Int64) μ))) ∧ (x0 = (21 : Int32) → ((0 ≤ (lg_cmp l1 l3)) → q (0 : Int64) μ) ∧ ((¬ 0 ≤ (lg_cmp l1 l3)) → q (1 : Int64) μ)) ∧ (x0 = (22 : Int32) → ((0 < (lg_cmp l1 l3)) → q (0 : Int64) μ) ∧ ((¬ 0 < (lg_cmp l1 l3)) → q (1 : Int64) μ)) ∧ (x0 = (23 : Int32) → ((¬ (lg_cmp l1 l3) = 0) → q (0 : Int64) μ) ∧ (((lg_cmp l1 l3) = 0) → q (1 : Int64) μ)) ∧ (x0 = (24 : Int32) → (((lg_cmp l1 l3) = 0) → q (0 : Int64) μ) ∧ ((¬ (lg_cmp l1 l3) = 0) → q (1 : Int64) μ)) ∧ (x0 = (25 : Int32) → (((lg_cmp l1 l3) < 0) → q (0 : Int64) μ) ∧ ((¬ (lg_cmp l1 l3) < 0) → q (1 : Int64) μ)) ∧ (x0 = (26 : Int32) → (((lg_cmp l1 l3) ≤ 0) → q (0 : Int64) μ) ∧ ((¬ (lg_cmp l1 l3) ≤ 0) → q (1 : Int64) μ)) ∧ (x0 = (27 : Int32) → q (l1 + l3) μ) ∧ (x0 = (28 : Int32) → q (l1 - l3) μ) ∧ (x0 = (29 : Int32) → q (l1 * l3) μ) ∧ (x0 = (30 : Int32) → ((¬ (lg_cmp l3 (0 : Int64)) = 0) → (¬ l3 = 0) ∧ (q (l1 / l3) μ)) ∧ (((lg_cmp l3 (0 : Int64)) = 0) → q (0 : Int64) μ)) ∧ ((¬ x0 = (12 : Int32) ∧ ¬ x0 = (21 : Int32) ∧ ¬ x0 = (22 : Int32) ∧ ¬ x0 = (23 : Int32) ∧ ¬ x0 = (24 : Int32) ∧ ¬ x0 = (25 : Int32) ∧ ¬ x0 = (26 : Int32) ∧ ¬ x0 = (27 : Int32) ∧ ¬ x0 = (28 : Int32) ∧ ¬ x0 = (29 : Int32) ∧ ¬ x0 = (30 : Int32)) → ((¬ (lg_cmp l1 (0 : Int64)) = 0) → pt_X2_joined_2 l D d q Γ  μ) ∧ (((lg_cmp l1 (0 : Int64)) = 0) → (((lg_cmp l3 (0 : Int64)) = 0) → q (0 : Int64) μ) ∧ ((¬ (lg_cmp l3 (0 : Int64)) = 0) → pt_X2_joined_2 l D d q Γ  μ)))) : pt_X2_joined_0 l D d q Γ x0 l1 l3 μ := by
  unfold pt_X2_joined_0
  refine g_iload_n dX2_joined_0 rfl ?_
  by_cases c_1_12 : x0 = (12 : Int32)
  · refine g_tableIn (off := 189) (tgt := 190) dX2_joined_1 (by rw [c_1_12]; decide) (by rw [c_1_12]; decide) (by rw [c_1_12]; rfl) (by decide) ?_
    have h := h.1 c_1_12
    refine g_lload_n dX2_joined_190 rfl ?_
    refine g_lconst (0 : Int64) dX2_joined_191 rfl ?_
    refine g_lcmp dX2_joined_192 ?_
    refine g_if_eq (tgt := 206) dX2_joined_193 (by decide) (fun c_10 => ?_) (fun c_10 => ?_)
    · have h := h.1 c_10
      exact g_sub [] rfl h
    · have h := h.2 c_10
      refine g_lload_n dX2_joined_196 rfl ?_
      refine g_lconst (0 : Int64) dX2_joined_197 rfl ?_
      refine g_lcmp dX2_joined_198 ?_
      refine g_if_eq (tgt := 206) dX2_joined_199 (by decide) (fun c_11 => ?_) (fun c_11 => ?_)
      · have h := h.1 c_11
        exact g_sub [] rfl h
      · have h := h.2 c_11
        refine g_lconst (1 : Int64) dX2_joined_202 rfl ?_
        refine g_goto (tgt := 207) dX2_joined_203 (by decide) ?_
        exact g_lret dX2_joined_207 rfl ⟨_, rfl, h⟩
  by_cases c_1_13 : x0 = (13 : Int32)
  · refine g_tableIn (off := 207) (tgt := 208) dX2_joined_1 (by rw [c_1_13]; decide) (by rw [c_1_13]; decide) (by rw [c_1_13]; rfl) (by decide) ?_
    have h := h.2.2.2.2.2.2.2.2.2.2.2 (⟨by rw [c_1_13]; decide, by rw [c_1_13]; decide, by rw [c_1_13]; decide, by rw [c_1_13]; decide, by rw [c_1_13]; decide, by rw [c_1_13]; decide, by rw [c_1_13]; decide, by rw [c_1_13]; decide, by rw [c_1_13]; decide, by rw [c_1_13]; decide, by rw [c_1_13]; decide⟩)
    refine g_lload_n dX2_joined_208 rfl ?_
    refine g_lconst (0 : Int64) dX2_joined_209 rfl ?_
    refine g_lcmp dX2_joined_210 ?_
    refine g_if_ne (tgt := 220) dX2_joined_211 (by decide) (fun c_12 => ?_) (fun c_12 => ?_)
    · have h := h.1 c_12
      exact g_sub [] rfl h
    · have h := h.2 c_12
      refine g_lload_n dX2_joined_214 rfl ?_
      refine g_lconst (0 : Int64) dX2_joined_215 rfl ?_
      refine g_lcmp dX2_joined_216 ?_
      refine g_if_eq (tgt := 224) dX2_joined_217 (by decide) (fun c_13 => ?_) (fun c_13 => ?_)
      · have h := h.1 c_13
        refine g_lconst (0 : Int64) dX2_joined_224 rfl ?_
        exact g_lret dX2_joined_225 rfl ⟨_, rfl, h⟩
      · have h := h.2 c_13
        exact g_sub [] rfl h
  by_cases c_1_14 : x0 = (14 : Int32)
  · refine g_tableIn (off := 207) (tgt := 208) dX2_joined_1 (by rw [c_1_14]; decide) (by rw [c_1_14]; decide) (by rw [c_1_14]; rfl) (by decide) ?_
    have h := h.2.2.2.2.2.2.2.2.2.2.2 (⟨by rw [c_1_14]; decide, by rw [c_1_14]; decide, by rw [c_1_14]; decide, by rw [c_1_14]; decide, by rw [c_1_14]; decide, by rw [c_1_14]; decide, by rw [c_1_14]; decide, by rw [c_1_14]; decide, by rw [c_1_14]; decide, by rw [c_1_14]; decide, by rw [c_1_14]; decide⟩)
    refine g_lload_n dX2_joined_208 rfl ?_
    refine g_lconst (0 : Int64) dX2_joined_209 rfl ?_
    refine g_lcmp dX2_joined_210 ?_
    refine g_if_ne (tgt := 220) dX2_joined_211 (by decide) (fun c_12 => ?_) (fun c_12 => ?_)
    · have h := h.1 c_12
      exact g_sub [] rfl h
    · have h := h.2 c_12
      refine g_lload_n dX2_joined_214 rfl ?_
      refine g_lconst (0 : Int64) dX2_joined_215 rfl ?_
      refine g_lcmp dX2_joined_216 ?_
      refine g_if_eq (tgt := 224) dX2_joined_217 (by decide) (fun c_13 => ?_) (fun c_13 => ?_)
      · have h := h.1 c_13
        refine g_lconst (0 : Int64) dX2_joined_224 rfl ?_
        exact g_lret dX2_joined_225 rfl ⟨_, rfl, h⟩
      · have h := h.2 c_13
        exact g_sub [] rfl h
  by_cases c_1_15 : x0 = (15 : Int32)
  · refine g_tableIn (off := 207) (tgt := 208) dX2_joined_1 (by rw [c_1_15]; decide) (by rw [c_1_15]; decide) (by rw [c_1_15]; rfl) (by decide) ?_
    have h := h.2.2.2.2.2.2.2.2.2.2.2 (⟨by rw [c_1_15]; decide, by rw [c_1_15]; decide, by rw [c_1_15]; decide, by rw [c_1_15]; decide, by rw [c_1_15]; decide, by rw [c_1_15]; decide, by rw [c_1_15]; decide, by rw [c_1_15]; decide, by rw [c_1_15]; decide, by rw [c_1_15]; decide, by rw [c_1_15]; decide⟩)
    refine g_lload_n dX2_joined_208 rfl ?_
    refine g_lconst (0 : Int64) dX2_joined_209 rfl ?_
    refine g_lcmp dX2_joined_210 ?_
    refine g_if_ne (tgt := 220) dX2_joined_211 (by decide) (fun c_12 => ?_) (fun c_12 => ?_)
    · have h := h.1 c_12
      exact g_sub [] rfl h
    · have h := h.2 c_12
      refine g_lload_n dX2_joined_214 rfl ?_
      refine g_lconst (0 : Int64) dX2_joined_215 rfl ?_
      refine g_lcmp dX2_joined_216 ?_
      refine g_if_eq (tgt := 224) dX2_joined_217 (by decide) (fun c_13 => ?_) (fun c_13 => ?_)
      · have h := h.1 c_13
        refine g_lconst (0 : Int64) dX2_joined_224 rfl ?_
        exact g_lret dX2_joined_225 rfl ⟨_, rfl, h⟩
      · have h := h.2 c_13
        exact g_sub [] rfl h
  by_cases c_1_16 : x0 = (16 : Int32)
  · refine g_tableIn (off := 207) (tgt := 208) dX2_joined_1 (by rw [c_1_16]; decide) (by rw [c_1_16]; decide) (by rw [c_1_16]; rfl) (by decide) ?_
    have h := h.2.2.2.2.2.2.2.2.2.2.2 (⟨by rw [c_1_16]; decide, by rw [c_1_16]; decide, by rw [c_1_16]; decide, by rw [c_1_16]; decide, by rw [c_1_16]; decide, by rw [c_1_16]; decide, by rw [c_1_16]; decide, by rw [c_1_16]; decide, by rw [c_1_16]; decide, by rw [c_1_16]; decide, by rw [c_1_16]; decide⟩)
    refine g_lload_n dX2_joined_208 rfl ?_
    refine g_lconst (0 : Int64) dX2_joined_209 rfl ?_
    refine g_lcmp dX2_joined_210 ?_
    refine g_if_ne (tgt := 220) dX2_joined_211 (by decide) (fun c_12 => ?_) (fun c_12 => ?_)
    · have h := h.1 c_12
      exact g_sub [] rfl h
    · have h := h.2 c_12
      refine g_lload_n dX2_joined_214 rfl ?_
      refine g_lconst (0 : Int64) dX2_joined_215 rfl ?_
      refine g_lcmp dX2_joined_216 ?_
      refine g_if_eq (tgt := 224) dX2_joined_217 (by decide) (fun c_13 => ?_) (fun c_13 => ?_)
      · have h := h.1 c_13
        refine g_lconst (0 : Int64) dX2_joined_224 rfl ?_
        exact g_lret dX2_joined_225 rfl ⟨_, rfl, h⟩
      · have h := h.2 c_13
        exact g_sub [] rfl h
  by_cases c_1_17 : x0 = (17 : Int32)
  · refine g_tableIn (off := 207) (tgt := 208) dX2_joined_1 (by rw [c_1_17]; decide) (by rw [c_1_17]; decide) (by rw [c_1_17]; rfl) (by decide) ?_
    have h := h.2.2.2.2.2.2.2.2.2.2.2 (⟨by rw [c_1_17]; decide, by rw [c_1_17]; decide, by rw [c_1_17]; decide, by rw [c_1_17]; decide, by rw [c_1_17]; decide, by rw [c_1_17]; decide, by rw [c_1_17]; decide, by rw [c_1_17]; decide, by rw [c_1_17]; decide, by rw [c_1_17]; decide, by rw [c_1_17]; decide⟩)
    refine g_lload_n dX2_joined_208 rfl ?_
    refine g_lconst (0 : Int64) dX2_joined_209 rfl ?_
    refine g_lcmp dX2_joined_210 ?_
    refine g_if_ne (tgt := 220) dX2_joined_211 (by decide) (fun c_12 => ?_) (fun c_12 => ?_)
    · have h := h.1 c_12
      exact g_sub [] rfl h
    · have h := h.2 c_12
      refine g_lload_n dX2_joined_214 rfl ?_
      refine g_lconst (0 : Int64) dX2_joined_215 rfl ?_
      refine g_lcmp dX2_joined_216 ?_
      refine g_if_eq (tgt := 224) dX2_joined_217 (by decide) (fun c_13 => ?_) (fun c_13 => ?_)
      · have h := h.1 c_13
        refine g_lconst (0 : Int64) dX2_joined_224 rfl ?_
        exact g_lret dX2_joined_225 rfl ⟨_, rfl, h⟩
      · have h := h.2 c_13
        exact g_sub [] rfl h
  by_cases c_1_18 : x0 = (18 : Int32)
  · refine g_tableIn (off := 207) (tgt := 208) dX2_joined_1 (by rw [c_1_18]; decide) (by rw [c_1_18]; decide) (by rw [c_1_18]; rfl) (by decide) ?_
    have h := h.2.2.2.2.2.2.2.2.2.2.2 (⟨by rw [c_1_18]; decide, by rw [c_1_18]; decide, by rw [c_1_18]; decide, by rw [c_1_18]; decide, by rw [c_1_18]; decide, by rw [c_1_18]; decide, by rw [c_1_18]; decide, by rw [c_1_18]; decide, by rw [c_1_18]; decide, by rw [c_1_18]; decide, by rw [c_1_18]; decide⟩)
    refine g_lload_n dX2_joined_208 rfl ?_
    refine g_lconst (0 : Int64) dX2_joined_209 rfl ?_
    refine g_lcmp dX2_joined_210 ?_
    refine g_if_ne (tgt := 220) dX2_joined_211 (by decide) (fun c_12 => ?_) (fun c_12 => ?_)
    · have h := h.1 c_12
      exact g_sub [] rfl h
    · have h := h.2 c_12
      refine g_lload_n dX2_joined_214 rfl ?_
      refine g_lconst (0 : Int64) dX2_joined_215 rfl ?_
      refine g_lcmp dX2_joined_216 ?_
      refine g_if_eq (tgt := 224) dX2_joined_217 (by decide) (fun c_13 => ?_) (fun c_13 => ?_)
      · have h := h.1 c_13
        refine g_lconst (0 : Int64) dX2_joined_224 rfl ?_
        exact g_lret dX2_joined_225 rfl ⟨_, rfl, h⟩
      · have h := h.2 c_13
        exact g_sub [] rfl h
  by_cases c_1_19 : x0 = (19 : Int32)
  · refine g_tableIn (off := 207) (tgt := 208) dX2_joined_1 (by rw [c_1_19]; decide) (by rw [c_1_19]; decide) (by rw [c_1_19]; rfl) (by decide) ?_
    have h := h.2.2.2.2.2.2.2.2.2.2.2 (⟨by rw [c_1_19]; decide, by rw [c_1_19]; decide, by rw [c_1_19]; decide, by rw [c_1_19]; decide, by rw [c_1_19]; decide, by rw [c_1_19]; decide, by rw [c_1_19]; decide, by rw [c_1_19]; decide, by rw [c_1_19]; decide, by rw [c_1_19]; decide, by rw [c_1_19]; decide⟩)
    refine g_lload_n dX2_joined_208 rfl ?_
    refine g_lconst (0 : Int64) dX2_joined_209 rfl ?_
    refine g_lcmp dX2_joined_210 ?_
    refine g_if_ne (tgt := 220) dX2_joined_211 (by decide) (fun c_12 => ?_) (fun c_12 => ?_)
    · have h := h.1 c_12
      exact g_sub [] rfl h
    · have h := h.2 c_12
      refine g_lload_n dX2_joined_214 rfl ?_
      refine g_lconst (0 : Int64) dX2_joined_215 rfl ?_
      refine g_lcmp dX2_joined_216 ?_
      refine g_if_eq (tgt := 224) dX2_joined_217 (by decide) (fun c_13 => ?_) (fun c_13 => ?_)
      · have h := h.1 c_13
        refine g_lconst (0 : Int64) dX2_joined_224 rfl ?_
        exact g_lret dX2_joined_225 rfl ⟨_, rfl, h⟩
      · have h := h.2 c_13
        exact g_sub [] rfl h
  by_cases c_1_20 : x0 = (20 : Int32)
  · refine g_tableIn (off := 207) (tgt := 208) dX2_joined_1 (by rw [c_1_20]; decide) (by rw [c_1_20]; decide) (by rw [c_1_20]; rfl) (by decide) ?_
    have h := h.2.2.2.2.2.2.2.2.2.2.2 (⟨by rw [c_1_20]; decide, by rw [c_1_20]; decide, by rw [c_1_20]; decide, by rw [c_1_20]; decide, by rw [c_1_20]; decide, by rw [c_1_20]; decide, by rw [c_1_20]; decide, by rw [c_1_20]; decide, by rw [c_1_20]; decide, by rw [c_1_20]; decide, by rw [c_1_20]; decide⟩)
    refine g_lload_n dX2_joined_208 rfl ?_
    refine g_lconst (0 : Int64) dX2_joined_209 rfl ?_
    refine g_lcmp dX2_joined_210 ?_
    refine g_if_ne (tgt := 220) dX2_joined_211 (by decide) (fun c_12 => ?_) (fun c_12 => ?_)
    · have h := h.1 c_12
      exact g_sub [] rfl h
    · have h := h.2 c_12
      refine g_lload_n dX2_joined_214 rfl ?_
      refine g_lconst (0 : Int64) dX2_joined_215 rfl ?_
      refine g_lcmp dX2_joined_216 ?_
      refine g_if_eq (tgt := 224) dX2_joined_217 (by decide) (fun c_13 => ?_) (fun c_13 => ?_)
      · have h := h.1 c_13
        refine g_lconst (0 : Int64) dX2_joined_224 rfl ?_
        exact g_lret dX2_joined_225 rfl ⟨_, rfl, h⟩
      · have h := h.2 c_13
        exact g_sub [] rfl h
  by_cases c_1_21 : x0 = (21 : Int32)
  · refine g_tableIn (off := 117) (tgt := 118) dX2_joined_1 (by rw [c_1_21]; decide) (by rw [c_1_21]; decide) (by rw [c_1_21]; rfl) (by decide) ?_
    have h := h.2.1 c_1_21
    refine g_lload_n dX2_joined_118 rfl ?_
    refine g_lload_n dX2_joined_119 rfl ?_
    refine g_lcmp dX2_joined_120 ?_
    refine g_if_ge (tgt := 128) dX2_joined_121 (by decide) (fun c_4 => ?_) (fun c_4 => ?_)
    · have h := h.1 c_4
      refine g_lconst (0 : Int64) dX2_joined_128 rfl ?_
      exact g_lret dX2_joined_129 rfl ⟨_, rfl, h⟩
    · have h := h.2 c_4
      refine g_lconst (1 : Int64) dX2_joined_124 rfl ?_
      refine g_goto (tgt := 129) dX2_joined_125 (by decide) ?_
      exact g_lret dX2_joined_129 rfl ⟨_, rfl, h⟩
  by_cases c_1_22 : x0 = (22 : Int32)
  · refine g_tableIn (off := 129) (tgt := 130) dX2_joined_1 (by rw [c_1_22]; decide) (by rw [c_1_22]; decide) (by rw [c_1_22]; rfl) (by decide) ?_
    have h := h.2.2.1 c_1_22
    refine g_lload_n dX2_joined_130 rfl ?_
    refine g_lload_n dX2_joined_131 rfl ?_
    refine g_lcmp dX2_joined_132 ?_
    refine g_if_gt (tgt := 140) dX2_joined_133 (by decide) (fun c_5 => ?_) (fun c_5 => ?_)
    · have h := h.1 c_5
      refine g_lconst (0 : Int64) dX2_joined_140 rfl ?_
      exact g_lret dX2_joined_141 rfl ⟨_, rfl, h⟩
    · have h := h.2 c_5
      refine g_lconst (1 : Int64) dX2_joined_136 rfl ?_
      refine g_goto (tgt := 141) dX2_joined_137 (by decide) ?_
      exact g_lret dX2_joined_141 rfl ⟨_, rfl, h⟩
  by_cases c_1_23 : x0 = (23 : Int32)
  · refine g_tableIn (off := 141) (tgt := 142) dX2_joined_1 (by rw [c_1_23]; decide) (by rw [c_1_23]; decide) (by rw [c_1_23]; rfl) (by decide) ?_
    have h := h.2.2.2.1 c_1_23
    refine g_lload_n dX2_joined_142 rfl ?_
    refine g_lload_n dX2_joined_143 rfl ?_
    refine g_lcmp dX2_joined_144 ?_
    refine g_if_ne (tgt := 152) dX2_joined_145 (by decide) (fun c_6 => ?_) (fun c_6 => ?_)
    · have h := h.1 c_6
      refine g_lconst (0 : Int64) dX2_joined_152 rfl ?_
      exact g_lret dX2_joined_153 rfl ⟨_, rfl, h⟩
    · have h := h.2 c_6
      refine g_lconst (1 : Int64) dX2_joined_148 rfl ?_
      refine g_goto (tgt := 153) dX2_joined_149 (by decide) ?_
      exact g_lret dX2_joined_153 rfl ⟨_, rfl, h⟩
  by_cases c_1_24 : x0 = (24 : Int32)
  · refine g_tableIn (off := 153) (tgt := 154) dX2_joined_1 (by rw [c_1_24]; decide) (by rw [c_1_24]; decide) (by rw [c_1_24]; rfl) (by decide) ?_
    have h := h.2.2.2.2.1 c_1_24
    refine g_lload_n dX2_joined_154 rfl ?_
    refine g_lload_n dX2_joined_155 rfl ?_
    refine g_lcmp dX2_joined_156 ?_
    refine g_if_eq (tgt := 164) dX2_joined_157 (by decide) (fun c_7 => ?_) (fun c_7 => ?_)
    · have h := h.1 c_7
      refine g_lconst (0 : Int64) dX2_joined_164 rfl ?_
      exact g_lret dX2_joined_165 rfl ⟨_, rfl, h⟩
    · have h := h.2 c_7
      refine g_lconst (1 : Int64) dX2_joined_160 rfl ?_
      refine g_goto (tgt := 165) dX2_joined_161 (by decide) ?_
      exact g_lret dX2_joined_165 rfl ⟨_, rfl, h⟩
  by_cases c_1_25 : x0 = (25 : Int32)
  · refine g_tableIn (off := 165) (tgt := 166) dX2_joined_1 (by rw [c_1_25]; decide) (by rw [c_1_25]; decide) (by rw [c_1_25]; rfl) (by decide) ?_
    have h := h.2.2.2.2.2.1 c_1_25
    refine g_lload_n dX2_joined_166 rfl ?_
    refine g_lload_n dX2_joined_167 rfl ?_
    refine g_lcmp dX2_joined_168 ?_
    refine g_if_lt (tgt := 176) dX2_joined_169 (by decide) (fun c_8 => ?_) (fun c_8 => ?_)
    · have h := h.1 c_8
      refine g_lconst (0 : Int64) dX2_joined_176 rfl ?_
      exact g_lret dX2_joined_177 rfl ⟨_, rfl, h⟩
    · have h := h.2 c_8
      refine g_lconst (1 : Int64) dX2_joined_172 rfl ?_
      refine g_goto (tgt := 177) dX2_joined_173 (by decide) ?_
      exact g_lret dX2_joined_177 rfl ⟨_, rfl, h⟩
  by_cases c_1_26 : x0 = (26 : Int32)
  · refine g_tableIn (off := 177) (tgt := 178) dX2_joined_1 (by rw [c_1_26]; decide) (by rw [c_1_26]; decide) (by rw [c_1_26]; rfl) (by decide) ?_
    have h := h.2.2.2.2.2.2.1 c_1_26
    refine g_lload_n dX2_joined_178 rfl ?_
    refine g_lload_n dX2_joined_179 rfl ?_
    refine g_lcmp dX2_joined_180 ?_
    refine g_if_le (tgt := 188) dX2_joined_181 (by decide) (fun c_9 => ?_) (fun c_9 => ?_)
    · have h := h.1 c_9
      refine g_lconst (0 : Int64) dX2_joined_188 rfl ?_
      exact g_lret dX2_joined_189 rfl ⟨_, rfl, h⟩
    · have h := h.2 c_9
      refine g_lconst (1 : Int64) dX2_joined_184 rfl ?_
      refine g_goto (tgt := 189) dX2_joined_185 (by decide) ?_
      exact g_lret dX2_joined_189 rfl ⟨_, rfl, h⟩
  by_cases c_1_27 : x0 = (27 : Int32)
  · refine g_tableIn (off := 91) (tgt := 92) dX2_joined_1 (by rw [c_1_27]; decide) (by rw [c_1_27]; decide) (by rw [c_1_27]; rfl) (by decide) ?_
    have h := h.2.2.2.2.2.2.2.1 c_1_27
    refine g_lload_n dX2_joined_92 rfl ?_
    refine g_lload_n dX2_joined_93 rfl ?_
    refine g_ladd dX2_joined_94 ?_
    exact g_lret dX2_joined_95 rfl ⟨_, rfl, h⟩
  by_cases c_1_28 : x0 = (28 : Int32)
  · refine g_tableIn (off := 95) (tgt := 96) dX2_joined_1 (by rw [c_1_28]; decide) (by rw [c_1_28]; decide) (by rw [c_1_28]; rfl) (by decide) ?_
    have h := h.2.2.2.2.2.2.2.2.1 c_1_28
    refine g_lload_n dX2_joined_96 rfl ?_
    refine g_lload_n dX2_joined_97 rfl ?_
    refine g_lsub dX2_joined_98 ?_
    exact g_lret dX2_joined_99 rfl ⟨_, rfl, h⟩
  by_cases c_1_29 : x0 = (29 : Int32)
  · refine g_tableIn (off := 99) (tgt := 100) dX2_joined_1 (by rw [c_1_29]; decide) (by rw [c_1_29]; decide) (by rw [c_1_29]; rfl) (by decide) ?_
    have h := h.2.2.2.2.2.2.2.2.2.1 c_1_29
    refine g_lload_n dX2_joined_100 rfl ?_
    refine g_lload_n dX2_joined_101 rfl ?_
    refine g_lmul dX2_joined_102 ?_
    exact g_lret dX2_joined_103 rfl ⟨_, rfl, h⟩
  by_cases c_1_30 : x0 = (30 : Int32)
  · refine g_tableIn (off := 103) (tgt := 104) dX2_joined_1 (by rw [c_1_30]; decide) (by rw [c_1_30]; decide) (by rw [c_1_30]; rfl) (by decide) ?_
    have h := h.2.2.2.2.2.2.2.2.2.2.1 c_1_30
    refine g_lload_n dX2_joined_104 rfl ?_
    refine g_lconst (0 : Int64) dX2_joined_105 rfl ?_
    refine g_lcmp dX2_joined_106 ?_
    refine g_if_ne (tgt := 114) dX2_joined_107 (by decide) (fun c_2 => ?_) (fun c_2 => ?_)
    · have h := h.1 c_2
      refine g_lload_n dX2_joined_114 rfl ?_
      refine g_lload_n dX2_joined_115 rfl ?_
      obtain ⟨nz_3, h⟩ := h
      refine g_ldiv dX2_joined_116 nz_3 ?_
      exact g_lret dX2_joined_117 rfl ⟨_, rfl, h⟩
    · have h := h.2 c_2
      refine g_lconst (0 : Int64) dX2_joined_110 rfl ?_
      refine g_goto (tgt := 117) dX2_joined_111 (by decide) ?_
      exact g_lret dX2_joined_117 rfl ⟨_, rfl, h⟩
  have c_1_o : (x0).toInt < 12 ∨ 30 < (x0).toInt := by
    have := lv_neT c_1_12 (a := 12) rfl
    have := lv_neT c_1_13 (a := 13) rfl
    have := lv_neT c_1_14 (a := 14) rfl
    have := lv_neT c_1_15 (a := 15) rfl
    have := lv_neT c_1_16 (a := 16) rfl
    have := lv_neT c_1_17 (a := 17) rfl
    have := lv_neT c_1_18 (a := 18) rfl
    have := lv_neT c_1_19 (a := 19) rfl
    have := lv_neT c_1_20 (a := 20) rfl
    have := lv_neT c_1_21 (a := 21) rfl
    have := lv_neT c_1_22 (a := 22) rfl
    have := lv_neT c_1_23 (a := 23) rfl
    have := lv_neT c_1_24 (a := 24) rfl
    have := lv_neT c_1_25 (a := 25) rfl
    have := lv_neT c_1_26 (a := 26) rfl
    have := lv_neT c_1_27 (a := 27) rfl
    have := lv_neT c_1_28 (a := 28) rfl
    have := lv_neT c_1_29 (a := 29) rfl
    have := lv_neT c_1_30 (a := 30) rfl
    omega
  refine g_tableOut (tgt := 208) dX2_joined_1 c_1_o (by decide) ?_
  have h := h.2.2.2.2.2.2.2.2.2.2.2 ⟨c_1_12, c_1_21, c_1_22, c_1_23, c_1_24, c_1_25, c_1_26, c_1_27, c_1_28, c_1_29, c_1_30⟩
  refine g_lload_n dX2_joined_208 rfl ?_
  refine g_lconst (0 : Int64) dX2_joined_209 rfl ?_
  refine g_lcmp dX2_joined_210 ?_
  refine g_if_ne (tgt := 220) dX2_joined_211 (by decide) (fun c_12 => ?_) (fun c_12 => ?_)
  · have h := h.1 c_12
    exact g_sub [] rfl h
  · have h := h.2 c_12
    refine g_lload_n dX2_joined_214 rfl ?_
    refine g_lconst (0 : Int64) dX2_joined_215 rfl ?_
    refine g_lcmp dX2_joined_216 ?_
    refine g_if_eq (tgt := 224) dX2_joined_217 (by decide) (fun c_13 => ?_) (fun c_13 => ?_)
    · have h := h.1 c_13
      refine g_lconst (0 : Int64) dX2_joined_224 rfl ?_
      exact g_lret dX2_joined_225 rfl ⟨_, rfl, h⟩
    · have h := h.2 c_13
      exact g_sub [] rfl h
set_option maxRecDepth 20000 in
set_option maxHeartbeats 4000000 in
theorem bl_X2_joined_1 {l : Launch} {D : gD} {d : Nat} {q : Int64 → gMem → Prop} {Γ : gC}  {μ : gMem}  (h : q (0 : Int64) μ) : pt_X2_joined_1 l D d q Γ  μ := by
  unfold pt_X2_joined_1
  refine g_lconst (0 : Int64) dX2_joined_206 rfl ?_
  exact g_lret dX2_joined_207 rfl ⟨_, rfl, h⟩
set_option maxRecDepth 20000 in
set_option maxHeartbeats 4000000 in
theorem bl_X2_joined_2 {l : Launch} {D : gD} {d : Nat} {q : Int64 → gMem → Prop} {Γ : gC}  {μ : gMem}  (h : q (1 : Int64) μ) : pt_X2_joined_2 l D d q Γ  μ := by
  unfold pt_X2_joined_2
  refine g_lconst (1 : Int64) dX2_joined_220 rfl ?_
  refine g_goto (tgt := 225) dX2_joined_221 (by decide) ?_
  exact g_lret dX2_joined_225 rfl ⟨_, rfl, h⟩
theorem en_X2_joined {l : Launch} {D : gD} {d : Nat} {q : Int64 → gMem → Prop} {x0 : Int32} {l1 : Int64} {l3 : Int64} {μ : gMem} (h : ∀ Γ : gC, pt_X2_joined_0 l D d q Γ x0 l1 l3 μ) : Ctr l D d yX2_joined cX2_joined 5 (some .long) [.int x0, .long l1, .long l3] μ (pJ q) :=
  Ctr_of rfl (by decide) (Nat.le_of_ble_eq_true rfl) (fun Γ => g_sub [0, 1, 2] rfl (h Γ))
def pt_X3_clear_0 (l : Launch) (D : gD) (d : Nat) (q : gMem → Prop) (Γ : gC) (r0 : Nat) (μ : gMem) : Prop := G l D RX3 cX3_clear 1 none d (pV q) Γ 0 [(0, .ref (D.2.2 3 r0))] [] μ
set_option maxRecDepth 20000 in
set_option maxHeartbeats 4000000 in
theorem bl_X3_clear_0 {l : Launch} {D : gD} {d : Nat} {q : gMem → Prop} {Γ : gC} {r0 : Nat} {μ : gMem} (hr0 : r0 < 1) (h : ∀ μ_1 : gMem, μ_1 = gsI μ 3 r0 6 (0 : Int32) → ∀ μ_2 : gMem, μ_2 = gsI μ_1 3 r0 7 (-1 : Int32) → q μ_2) : pt_X3_clear_0 l D d q Γ r0 μ := by
  unfold pt_X3_clear_0
  refine g_aload_n dX3_clear_0 rfl ?_
  refine g_iconst (0 : Int32) dX3_clear_1 rfl ?_
  refine g_pfI fi_3_35 hr0 rfl rfl dX3_clear_2 ?_
  obtain ⟨μ_1, eμ_1⟩ : ∃ z : gMem, z = gsI μ 3 r0 6 (0 : Int32) := ⟨_, rfl⟩
  have h := h μ_1 eμ_1
  refine g_mem eμ_1.symm ?_
  refine g_aload_n dX3_clear_5 rfl ?_
  refine g_iconst (-1 : Int32) dX3_clear_6 rfl ?_
  refine g_pfI fi_3_31 hr0 rfl rfl dX3_clear_7 ?_
  obtain ⟨μ_2, eμ_2⟩ : ∃ z : gMem, z = gsI μ_1 3 r0 7 (-1 : Int32) := ⟨_, rfl⟩
  have h := h μ_2 eμ_2
  refine g_mem eμ_2.symm ?_
  exact g_vret dX3_clear_10 rfl ⟨rfl, h⟩
theorem en_X3_clear {l : Launch} {D : gD} {d : Nat} {q : gMem → Prop} {r0 : Nat} {μ : gMem} (h : ∀ Γ : gC, pt_X3_clear_0 l D d q Γ r0 μ) : Ctr l D d yX3_clear cX3_clear 1 none [.ref (D.2.2 3 r0)] μ (pV q) :=
  Ctr_of rfl (by decide) (Nat.le_of_ble_eq_true rfl) (fun Γ => g_sub [0] rfl (h Γ))
def pt_X3_add_0 (l : Launch) (D : gD) (d : Nat) (q : Int32 → gMem → Prop) (Γ : gC) (r0 : Nat) (x1 : Int32) (x2 : Int32) (x3 : Int32) (x4 : Int32) (μ : gMem) : Prop := G l D RX3 cX3_add 5 (some .int) d (pI q) Γ 0 [(0, .ref (D.2.2 3 r0)), (1, .int x1), (2, .int x2), (3, .int x3), (4, .int x4)] [] μ
set_option maxRecDepth 20000 in
set_option maxHeartbeats 4000000 in
theorem bl_X3_add_0 {l : Launch} {D : gD} {d : Nat} {q : Int32 → gMem → Prop} {Γ : gC} {r0 : Nat} {x1 : Int32} {x2 : Int32} {x3 : Int32} {x4 : Int32} {μ : gMem} (hr0 : r0 < 1) (h : (((μ.1 3 r0 6) < (24 : Int32)) → ∃ j_2 : Nat, j_2 < 24 ∧ μ.1 3 r0 6 = nI j_2 ∧ (∀ μ_3 : gMem, μ_3 = gsI μ 256 r0 j_2 x1 → ∃ j_4 : Nat, j_4 < 24 ∧ μ_3.1 3 r0 6 = nI j_4 ∧ (∀ μ_5 : gMem, μ_5 = gsI μ_3 257 r0 j_4 x2 → ∃ j_6 : Nat, j_6 < 24 ∧ μ_5.1 3 r0 6 = nI j_6 ∧ (∀ μ_7 : gMem, μ_7 = gsI μ_5 258 r0 j_6 x3 → ∃ j_8 : Nat, j_8 < 24 ∧ μ_7.1 3 r0 6 = nI j_8 ∧ (∀ μ_9 : gMem, μ_9 = gsI μ_7 259 r0 j_8 (vp_nar .boolean x4) → ∃ j_10 : Nat, j_10 < 24 ∧ μ_9.1 3 r0 6 = nI j_10 ∧ (∀ μ_11 : gMem, μ_11 = gsI μ_9 260 r0 j_10 (-1 : Int32) → ∀ μ_12 : gMem, μ_12 = gsI μ_11 3 r0 6 ((μ_11.1 3 r0 6) + (1 : Int32)) → q ((μ_12.1 3 r0 6) - (1 : Int32)) μ_12)))))) ∧ ((¬ (μ.1 3 r0 6) < (24 : Int32)) → q (-1 : Int32) μ)) : pt_X3_add_0 l D d q Γ r0 x1 x2 x3 x4 μ := by
  unfold pt_X3_add_0
  refine g_aload_n dX3_add_0 rfl ?_
  refine g_gfI fi_3_35 hr0 dX3_add_1 ?_
  refine g_bipush (24 : Int32) dX3_add_4 rfl ?_
  refine g_icmp_lt (tgt := 11) dX3_add_6 (by decide) (fun c_1 => ?_) (fun c_1 => ?_)
  · have h := h.1 c_1
    refine g_aload_n dX3_add_11 rfl ?_
    refine g_gfR fl_3_9 rfl hr0 dX3_add_12 ?_
    refine g_aload_n dX3_add_15 rfl ?_
    refine g_gfI fi_3_35 hr0 dX3_add_16 ?_
    refine g_iload_n dX3_add_19 rfl ?_
    obtain ⟨j_2, hj_2, ej_2, h⟩ := h
    refine g_iast j_2 hr0 rfl hj_2 (by decide) ej_2 dX3_add_20 ?_
    obtain ⟨μ_3, eμ_3⟩ : ∃ z : gMem, z = gsI μ 256 r0 j_2 x1 := ⟨_, rfl⟩
    have h := h μ_3 eμ_3
    refine g_mem eμ_3.symm ?_
    refine g_aload_n dX3_add_21 rfl ?_
    refine g_gfR fl_3_15 rfl hr0 dX3_add_22 ?_
    refine g_aload_n dX3_add_25 rfl ?_
    refine g_gfI fi_3_35 hr0 dX3_add_26 ?_
    refine g_iload_n dX3_add_29 rfl ?_
    obtain ⟨j_4, hj_4, ej_4, h⟩ := h
    refine g_iast j_4 hr0 rfl hj_4 (by decide) ej_4 dX3_add_30 ?_
    obtain ⟨μ_5, eμ_5⟩ : ∃ z : gMem, z = gsI μ_3 257 r0 j_4 x2 := ⟨_, rfl⟩
    have h := h μ_5 eμ_5
    refine g_mem eμ_5.symm ?_
    refine g_aload_n dX3_add_31 rfl ?_
    refine g_gfR fl_3_18 rfl hr0 dX3_add_32 ?_
    refine g_aload_n dX3_add_35 rfl ?_
    refine g_gfI fi_3_35 hr0 dX3_add_36 ?_
    refine g_iload_n dX3_add_39 rfl ?_
    obtain ⟨j_6, hj_6, ej_6, h⟩ := h
    refine g_iast j_6 hr0 rfl hj_6 (by decide) ej_6 dX3_add_40 ?_
    obtain ⟨μ_7, eμ_7⟩ : ∃ z : gMem, z = gsI μ_5 258 r0 j_6 x3 := ⟨_, rfl⟩
    have h := h μ_7 eμ_7
    refine g_mem eμ_7.symm ?_
    refine g_aload_n dX3_add_41 rfl ?_
    refine g_gfR fl_3_21 rfl hr0 dX3_add_42 ?_
    refine g_aload_n dX3_add_45 rfl ?_
    refine g_gfI fi_3_35 hr0 dX3_add_46 ?_
    refine g_iload dX3_add_49 rfl ?_
    obtain ⟨j_8, hj_8, ej_8, h⟩ := h
    refine g_zast j_8 hr0 rfl hj_8 (by decide) ej_8 dX3_add_51 ?_
    obtain ⟨μ_9, eμ_9⟩ : ∃ z : gMem, z = gsI μ_7 259 r0 j_8 (vp_nar .boolean x4) := ⟨_, rfl⟩
    have h := h μ_9 eμ_9
    refine g_mem eμ_9.symm ?_
    refine g_aload_n dX3_add_52 rfl ?_
    refine g_gfR fl_3_25 rfl hr0 dX3_add_53 ?_
    refine g_aload_n dX3_add_56 rfl ?_
    refine g_gfI fi_3_35 hr0 dX3_add_57 ?_
    refine g_iconst (-1 : Int32) dX3_add_60 rfl ?_
    obtain ⟨j_10, hj_10, ej_10, h⟩ := h
    refine g_iast j_10 hr0 rfl hj_10 (by decide) ej_10 dX3_add_61 ?_
    obtain ⟨μ_11, eμ_11⟩ : ∃ z : gMem, z = gsI μ_9 260 r0 j_10 (-1 : Int32) := ⟨_, rfl⟩
    have h := h μ_11 eμ_11
    refine g_mem eμ_11.symm ?_
    refine g_aload_n dX3_add_62 rfl ?_
    refine g_dup dX3_add_63 rfl ?_
    refine g_gfI fi_3_35 hr0 dX3_add_64 ?_
    refine g_iconst (1 : Int32) dX3_add_67 rfl ?_
    refine g_iadd dX3_add_68 ?_
    refine g_pfI fi_3_35 hr0 rfl rfl dX3_add_69 ?_
    obtain ⟨μ_12, eμ_12⟩ : ∃ z : gMem, z = gsI μ_11 3 r0 6 ((μ_11.1 3 r0 6) + (1 : Int32)) := ⟨_, rfl⟩
    have h := h μ_12 eμ_12
    refine g_mem eμ_12.symm ?_
    refine g_aload_n dX3_add_72 rfl ?_
    refine g_gfI fi_3_35 hr0 dX3_add_73 ?_
    refine g_iconst (1 : Int32) dX3_add_76 rfl ?_
    refine g_isub dX3_add_77 ?_
    exact g_iret dX3_add_78 rfl rfl ⟨_, rfl, h⟩
  · have h := h.2 c_1
    refine g_iconst (-1 : Int32) dX3_add_9 rfl ?_
    exact g_iret dX3_add_10 rfl rfl ⟨_, rfl, h⟩
theorem en_X3_add {l : Launch} {D : gD} {d : Nat} {q : Int32 → gMem → Prop} {r0 : Nat} {x1 : Int32} {x2 : Int32} {x3 : Int32} {x4 : Int32} {μ : gMem} (h : ∀ Γ : gC, pt_X3_add_0 l D d q Γ r0 x1 x2 x3 x4 μ) : Ctr l D d yX3_add cX3_add 5 (some .int) [.ref (D.2.2 3 r0), .int x1, .int x2, .int x3, .int x4] μ (pI q) :=
  Ctr_of rfl (by decide) (Nat.le_of_ble_eq_true rfl) (fun Γ => g_sub [0, 1, 2, 3, 4] rfl (h Γ))
def pt_X3_addStrike_0 (l : Launch) (D : gD) (d : Nat) (q : Int32 → gMem → Prop) (Γ : gC) (r0 : Nat) (x1 : Int32) (μ : gMem) : Prop := G l D RX3 cX3_addStrike 3 (some .int) d (pI q) Γ 0 [(0, .ref (D.2.2 3 r0)), (1, .int x1)] [] μ
set_option maxRecDepth 20000 in
set_option maxHeartbeats 4000000 in
theorem bl_X3_addStrike_0 {l : Launch} {D : gD} {d : Nat} {q : Int32 → gMem → Prop} {Γ : gC} {r0 : Nat} {x1 : Int32} {μ : gMem} (hr0 : r0 < 1) (h : ∃ (d_1 : Nat) (q_2 : Int32 → gMem → Prop), d_1 < d ∧ Ctr l D d_1 yX3_add cX3_add 5 (some .int) [.ref (D.2.2 3 r0), .int (0 : Int32), .int (0 : Int32), .int (0 : Int32), .int (0 : Int32)] μ (pI q_2) ∧ ∀ (v_6 : Int32) (μ_5 : gMem), q_2 v_6 μ_5 → ∀ x2_8 : Int32, x2_8 = v_6 → ((x2_8 = (-1 : Int32)) → q x2_8 μ_5) ∧ ((¬ x2_8 = (-1 : Int32)) → ∃ j_10 : Nat, j_10 < 24 ∧ x2_8 = nI j_10 ∧ (∀ μ_11 : gMem, μ_11 = gsI μ_5 260 r0 j_10 x1 → q x2_8 μ_11))) : pt_X3_addStrike_0 l D d q Γ r0 x1 μ := by
  unfold pt_X3_addStrike_0
  refine g_aload_n dX3_addStrike_0 rfl ?_
  refine g_iconst (0 : Int32) dX3_addStrike_1 rfl ?_
  refine g_iconst (0 : Int32) dX3_addStrike_2 rfl ?_
  refine g_iconst (0 : Int32) dX3_addStrike_3 rfl ?_
  refine g_iconst (0 : Int32) dX3_addStrike_4 rfl ?_
  obtain ⟨d_1, q_2, hd_3, hc_4, h⟩ := h
  refine g_cV ca_X3_38 ob_3 hc_4 hd_3 (by decide) hr0 rfl rfl (by first | exact Nat.le_of_ble_eq_true rfl | decide) dX3_addStrike_5 (kI (fun v_6 μ_5 hq_7 => ?_))
  have h := h v_6 μ_5 hq_7
  refine g_istore_n dX3_addStrike_8 (by decide) (fun x2_8 ex2_8 => g_sub (lv' := [(0, .ref (D.2.2 3 r0)), (1, .int x1), (2, .int x2_8)]) [1, 2, 0] rfl ?_)
  have h := h x2_8 ex2_8
  refine g_iload_n dX3_addStrike_9 rfl ?_
  refine g_iconst (-1 : Int32) dX3_addStrike_10 rfl ?_
  refine g_icmp_eq (tgt := 21) dX3_addStrike_11 (by decide) (fun c_9 => ?_) (fun c_9 => ?_)
  · have h := h.1 c_9
    refine g_iload_n dX3_addStrike_21 rfl ?_
    exact g_iret dX3_addStrike_22 rfl rfl ⟨_, rfl, h⟩
  · have h := h.2 c_9
    refine g_aload_n dX3_addStrike_14 rfl ?_
    refine g_gfR fl_3_25 rfl hr0 dX3_addStrike_15 ?_
    refine g_iload_n dX3_addStrike_18 rfl ?_
    refine g_iload_n dX3_addStrike_19 rfl ?_
    obtain ⟨j_10, hj_10, ej_10, h⟩ := h
    refine g_iast j_10 hr0 rfl hj_10 (by decide) ej_10 dX3_addStrike_20 ?_
    obtain ⟨μ_11, eμ_11⟩ : ∃ z : gMem, z = gsI μ_5 260 r0 j_10 x1 := ⟨_, rfl⟩
    have h := h μ_11 eμ_11
    refine g_mem eμ_11.symm ?_
    refine g_iload_n dX3_addStrike_21 rfl ?_
    exact g_iret dX3_addStrike_22 rfl rfl ⟨_, rfl, h⟩
theorem en_X3_addStrike {l : Launch} {D : gD} {d : Nat} {q : Int32 → gMem → Prop} {r0 : Nat} {x1 : Int32} {μ : gMem} (h : ∀ Γ : gC, pt_X3_addStrike_0 l D d q Γ r0 x1 μ) : Ctr l D d yX3_addStrike cX3_addStrike 3 (some .int) [.ref (D.2.2 3 r0), .int x1] μ (pI q) :=
  Ctr_of rfl (by decide) (Nat.le_of_ble_eq_true rfl) (fun Γ => g_sub [0, 1] rfl (h Γ))
def pt_X3_findStruck_0 (l : Launch) (D : gD) (d : Nat) (q : gMem → Prop) (Γ : gC) (r0 : Nat) (μ : gMem) : Prop := G l D RX3 cX3_findStruck 2 none d (pV q) Γ 0 [(0, .ref (D.2.2 3 r0))] [] μ
def pt_X3_findStruck_1 (l : Launch) (D : gD) (d : Nat) (q : gMem → Prop) (Γ : gC) (r0 : Nat) (x1 : Int32) (μ : gMem) : Prop := G l D RX3 cX3_findStruck 2 none d (pV q) Γ 2 [(0, .ref (D.2.2 3 r0)), (1, .int x1)] [] μ
def pt_X3_findStruck_2 (l : Launch) (D : gD) (d : Nat) (q : gMem → Prop) (Γ : gC) (r0 : Nat) (x1 : Int32) (μ : gMem) : Prop := G l D RX3 cX3_findStruck 2 none d (pV q) Γ 28 [(0, .ref (D.2.2 3 r0)), (1, .int x1)] [] μ
def pt_X3_findStruck_3 (l : Launch) (D : gD) (d : Nat) (q : gMem → Prop) (Γ : gC) (r0 : Nat) (x1 : Int32) (μ : gMem) : Prop := G l D RX3 cX3_findStruck 2 none d (pV q) Γ 63 [(0, .ref (D.2.2 3 r0)), (1, .int x1)] [] μ
set_option maxRecDepth 20000 in
set_option maxHeartbeats 4000000 in
theorem bl_X3_findStruck_0 {l : Launch} {D : gD} {d : Nat} {q : gMem → Prop} {Γ : gC} {r0 : Nat} {μ : gMem} (hr0 : r0 < 1) (h : ∀ x1_1 : Int32, x1_1 = (0 : Int32) → pt_X3_findStruck_1 l D d q Γ r0 x1_1 μ) : pt_X3_findStruck_0 l D d q Γ r0 μ := by
  unfold pt_X3_findStruck_0
  refine g_iconst (0 : Int32) dX3_findStruck_0 rfl ?_
  refine g_istore_n dX3_findStruck_1 (by decide) (fun x1_1 ex1_1 => g_sub (lv' := [(0, .ref (D.2.2 3 r0)), (1, .int x1_1)]) [1, 0] rfl ?_)
  have h := h x1_1 ex1_1
  exact g_sub [0, 1] rfl h
set_option maxRecDepth 20000 in
set_option maxHeartbeats 4000000 in
theorem bl_X3_findStruck_1 {l : Launch} {D : gD} {d : Nat} {q : gMem → Prop} {Γ : gC} {r0 : Nat} {x1 : Int32} {μ : gMem} (hr0 : r0 < 1) (h : (((24 : Int32) ≤ x1) → (0 < d) ∧ (∀ x1_6 : Int32, x1_6 = (fkn (μ.1 3 r0 7) (μ.1 3 r0 6)) - (1 : Int32) → pt_X3_findStruck_2 l D d q Γ r0 x1_6 μ)) ∧ ((¬ (24 : Int32) ≤ x1) → ∃ j_7 : Nat, j_7 < 24 ∧ x1 = nI j_7 ∧ (∀ μ_8 : gMem, μ_8 = gsI μ 261 r0 j_7 (vp_nar .boolean (0 : Int32)) → ∀ x1_9 : Int32, x1_9 = x1 + (1 : Int32) → pt_X3_findStruck_1 l D d q Γ r0 x1_9 μ_8))) : pt_X3_findStruck_1 l D d q Γ r0 x1 μ := by
  unfold pt_X3_findStruck_1
  refine g_iload_n dX3_findStruck_2 rfl ?_
  refine g_bipush (24 : Int32) dX3_findStruck_3 rfl ?_
  refine g_icmp_ge (tgt := 21) dX3_findStruck_5 (by decide) (fun c_1 => ?_) (fun c_1 => ?_)
  · have h := h.1 c_1
    refine g_aload_n dX3_findStruck_21 rfl ?_
    obtain ⟨hd_2, h⟩ := h
    refine g_cV ca_X3_42 ob_3 (c_X3_firstKnown (d := 0) (Nat.le_refl _) hr0 ) hd_2 (by decide) hr0 rfl rfl (by first | exact Nat.le_of_ble_eq_true rfl | decide) dX3_findStruck_22 (kI (fun v_3 μ_4 hq_5 => ?_))
    obtain ⟨ev_3, eμ_4⟩ := hq_5
    subst ev_3
    refine g_mem eμ_4 ?_
    refine g_iconst (1 : Int32) dX3_findStruck_25 rfl ?_
    refine g_isub dX3_findStruck_26 ?_
    refine g_istore_n dX3_findStruck_27 (by decide) (fun x1_6 ex1_6 => g_sub (lv' := [(0, .ref (D.2.2 3 r0)), (1, .int x1_6)]) [1, 0] rfl ?_)
    have h := h x1_6 ex1_6
    exact g_sub [0, 1] rfl h
  · have h := h.2 c_1
    refine g_aload_n dX3_findStruck_8 rfl ?_
    refine g_gfR fl_3_28 rfl hr0 dX3_findStruck_9 ?_
    refine g_iload_n dX3_findStruck_12 rfl ?_
    refine g_iconst (0 : Int32) dX3_findStruck_13 rfl ?_
    obtain ⟨j_7, hj_7, ej_7, h⟩ := h
    refine g_zast j_7 hr0 rfl hj_7 (by decide) ej_7 dX3_findStruck_14 ?_
    obtain ⟨μ_8, eμ_8⟩ : ∃ z : gMem, z = gsI μ 261 r0 j_7 (vp_nar .boolean (0 : Int32)) := ⟨_, rfl⟩
    have h := h μ_8 eμ_8
    refine g_mem eμ_8.symm ?_
    refine g_iinc dX3_findStruck_15 rfl (by decide) (fun x1_9 ex1_9 => g_sub (lv' := [(0, .ref (D.2.2 3 r0)), (1, .int x1_9)]) [1, 0] rfl ?_)
    have h := h x1_9 ex1_9
    refine g_goto (tgt := 2) dX3_findStruck_18 (by decide) ?_
    exact g_sub [0, 1] rfl h
set_option maxRecDepth 20000 in
set_option maxHeartbeats 4000000 in
theorem bl_X3_findStruck_2 {l : Launch} {D : gD} {d : Nat} {q : gMem → Prop} {Γ : gC} {r0 : Nat} {x1 : Int32} {μ : gMem} (hr0 : r0 < 1) (h : ((x1 < 0) → q μ) ∧ ((¬ x1 < 0) → ∃ j_2 : Nat, j_2 < 24 ∧ x1 = nI j_2 ∧ (((¬ (μ.1 261 r0 j_2) = 0) → pt_X3_findStruck_3 l D d q Γ r0 x1 μ) ∧ (((μ.1 261 r0 j_2) = 0) → ∃ j_4 : Nat, j_4 < 24 ∧ x1 = nI j_4 ∧ ((((μ.1 260 r0 j_4) = (-1 : Int32)) → pt_X3_findStruck_3 l D d q Γ r0 x1 μ) ∧ ((¬ (μ.1 260 r0 j_4) = (-1 : Int32)) → ∃ j_6 : Nat, j_6 < 24 ∧ x1 = nI j_6 ∧ (∃ j_7 : Nat, j_7 < 24 ∧ μ.1 260 r0 j_6 = nI j_7 ∧ (∀ μ_8 : gMem, μ_8 = gsI μ 261 r0 j_7 (vp_nar .boolean (1 : Int32)) → pt_X3_findStruck_3 l D d q Γ r0 x1 μ_8)))))))) : pt_X3_findStruck_2 l D d q Γ r0 x1 μ := by
  unfold pt_X3_findStruck_2
  refine g_iload_n dX3_findStruck_28 rfl ?_
  refine g_if_lt (tgt := 69) dX3_findStruck_29 (by decide) (fun c_1 => ?_) (fun c_1 => ?_)
  · have h := h.1 c_1
    exact g_vret dX3_findStruck_69 rfl ⟨rfl, h⟩
  · have h := h.2 c_1
    refine g_aload_n dX3_findStruck_32 rfl ?_
    refine g_gfR fl_3_28 rfl hr0 dX3_findStruck_33 ?_
    refine g_iload_n dX3_findStruck_36 rfl ?_
    obtain ⟨j_2, hj_2, ej_2, h⟩ := h
    refine g_zald j_2 hr0 rfl hj_2 (by decide) ej_2 dX3_findStruck_37 ?_
    refine g_if_ne (tgt := 63) dX3_findStruck_38 (by decide) (fun c_3 => ?_) (fun c_3 => ?_)
    · have h := h.1 c_3
      exact g_sub [0, 1] rfl h
    · have h := h.2 c_3
      refine g_aload_n dX3_findStruck_41 rfl ?_
      refine g_gfR fl_3_25 rfl hr0 dX3_findStruck_42 ?_
      refine g_iload_n dX3_findStruck_45 rfl ?_
      obtain ⟨j_4, hj_4, ej_4, h⟩ := h
      refine g_iald j_4 hr0 rfl hj_4 (by decide) ej_4 dX3_findStruck_46 ?_
      refine g_iconst (-1 : Int32) dX3_findStruck_47 rfl ?_
      refine g_icmp_eq (tgt := 63) dX3_findStruck_48 (by decide) (fun c_5 => ?_) (fun c_5 => ?_)
      · have h := h.1 c_5
        exact g_sub [0, 1] rfl h
      · have h := h.2 c_5
        refine g_aload_n dX3_findStruck_51 rfl ?_
        refine g_gfR fl_3_28 rfl hr0 dX3_findStruck_52 ?_
        refine g_aload_n dX3_findStruck_55 rfl ?_
        refine g_gfR fl_3_25 rfl hr0 dX3_findStruck_56 ?_
        refine g_iload_n dX3_findStruck_59 rfl ?_
        obtain ⟨j_6, hj_6, ej_6, h⟩ := h
        refine g_iald j_6 hr0 rfl hj_6 (by decide) ej_6 dX3_findStruck_60 ?_
        refine g_iconst (1 : Int32) dX3_findStruck_61 rfl ?_
        obtain ⟨j_7, hj_7, ej_7, h⟩ := h
        refine g_zast j_7 hr0 rfl hj_7 (by decide) ej_7 dX3_findStruck_62 ?_
        obtain ⟨μ_8, eμ_8⟩ : ∃ z : gMem, z = gsI μ 261 r0 j_7 (vp_nar .boolean (1 : Int32)) := ⟨_, rfl⟩
        have h := h μ_8 eμ_8
        refine g_mem eμ_8.symm ?_
        exact g_sub [0, 1] rfl h
set_option maxRecDepth 20000 in
set_option maxHeartbeats 4000000 in
theorem bl_X3_findStruck_3 {l : Launch} {D : gD} {d : Nat} {q : gMem → Prop} {Γ : gC} {r0 : Nat} {x1 : Int32} {μ : gMem} (hr0 : r0 < 1) (h : ∀ x1_1 : Int32, x1_1 = x1 + (-1 : Int32) → pt_X3_findStruck_2 l D d q Γ r0 x1_1 μ) : pt_X3_findStruck_3 l D d q Γ r0 x1 μ := by
  unfold pt_X3_findStruck_3
  refine g_iinc dX3_findStruck_63 rfl (by decide) (fun x1_1 ex1_1 => g_sub (lv' := [(0, .ref (D.2.2 3 r0)), (1, .int x1_1)]) [1, 0] rfl ?_)
  have h := h x1_1 ex1_1
  refine g_goto (tgt := 28) dX3_findStruck_66 (by decide) ?_
  exact g_sub [0, 1] rfl h
theorem en_X3_findStruck {l : Launch} {D : gD} {d : Nat} {q : gMem → Prop} {r0 : Nat} {μ : gMem} (h : ∀ Γ : gC, pt_X3_findStruck_0 l D d q Γ r0 μ) : Ctr l D d yX3_findStruck cX3_findStruck 2 none [.ref (D.2.2 3 r0)] μ (pV q) :=
  Ctr_of rfl (by decide) (Nat.le_of_ble_eq_true rfl) (fun Γ => g_sub [0] rfl (h Γ))
def pt_X3_isKnown_0 (l : Launch) (D : gD) (d : Nat) (q : Int32 → gMem → Prop) (Γ : gC) (r0 : Nat) (x1 : Int32) (μ : gMem) : Prop := G l D RX3 cX3_isKnown 2 (some .boolean) d (pI q) Γ 0 [(0, .ref (D.2.2 3 r0)), (1, .int x1)] [] μ
set_option maxRecDepth 20000 in
set_option maxHeartbeats 4000000 in
theorem bl_X3_isKnown_0 {l : Launch} {D : gD} {d : Nat} {q : Int32 → gMem → Prop} {Γ : gC} {r0 : Nat} {x1 : Int32} {μ : gMem} (hr0 : r0 < 1) (h : ∃ j_1 : Nat, j_1 < 24 ∧ x1 = nI j_1 ∧ (((¬ (μ.1 260 r0 j_1) = (-1 : Int32)) → q (0 : Int32) μ) ∧ (((μ.1 260 r0 j_1) = (-1 : Int32)) → ∃ j_3 : Nat, j_3 < 24 ∧ x1 = nI j_3 ∧ (((¬ (μ.1 261 r0 j_3) = 0) → q (0 : Int32) μ) ∧ (((μ.1 261 r0 j_3) = 0) → q (1 : Int32) μ))))) : pt_X3_isKnown_0 l D d q Γ r0 x1 μ := by
  unfold pt_X3_isKnown_0
  refine g_aload_n dX3_isKnown_0 rfl ?_
  refine g_gfR fl_3_25 rfl hr0 dX3_isKnown_1 ?_
  refine g_iload_n dX3_isKnown_4 rfl ?_
  obtain ⟨j_1, hj_1, ej_1, h⟩ := h
  refine g_iald j_1 hr0 rfl hj_1 (by decide) ej_1 dX3_isKnown_5 ?_
  refine g_iconst (-1 : Int32) dX3_isKnown_6 rfl ?_
  refine g_icmp_ne (tgt := 23) dX3_isKnown_7 (by decide) (fun c_2 => ?_) (fun c_2 => ?_)
  · have h := h.1 c_2
    refine g_iconst (0 : Int32) dX3_isKnown_23 rfl ?_
    exact g_iret dX3_isKnown_24 rfl rfl ⟨_, rfl, h⟩
  · have h := h.2 c_2
    refine g_aload_n dX3_isKnown_10 rfl ?_
    refine g_gfR fl_3_28 rfl hr0 dX3_isKnown_11 ?_
    refine g_iload_n dX3_isKnown_14 rfl ?_
    obtain ⟨j_3, hj_3, ej_3, h⟩ := h
    refine g_zald j_3 hr0 rfl hj_3 (by decide) ej_3 dX3_isKnown_15 ?_
    refine g_if_ne (tgt := 23) dX3_isKnown_16 (by decide) (fun c_4 => ?_) (fun c_4 => ?_)
    · have h := h.1 c_4
      refine g_iconst (0 : Int32) dX3_isKnown_23 rfl ?_
      exact g_iret dX3_isKnown_24 rfl rfl ⟨_, rfl, h⟩
    · have h := h.2 c_4
      refine g_iconst (1 : Int32) dX3_isKnown_19 rfl ?_
      refine g_goto (tgt := 24) dX3_isKnown_20 (by decide) ?_
      exact g_iret dX3_isKnown_24 rfl rfl ⟨_, rfl, h⟩
theorem en_X3_isKnown {l : Launch} {D : gD} {d : Nat} {q : Int32 → gMem → Prop} {r0 : Nat} {x1 : Int32} {μ : gMem} (h : ∀ Γ : gC, pt_X3_isKnown_0 l D d q Γ r0 x1 μ) : Ctr l D d yX3_isKnown cX3_isKnown 2 (some .boolean) [.ref (D.2.2 3 r0), .int x1] μ (pI q) :=
  Ctr_of rfl (by decide) (Nat.le_of_ble_eq_true rfl) (fun Γ => g_sub [0, 1] rfl (h Γ))
def pt_X3_lastDay_0 (l : Launch) (D : gD) (d : Nat) (q : Int32 → gMem → Prop) (Γ : gC) (r0 : Nat) (μ : gMem) : Prop := G l D RX3 cX3_lastDay 3 (some .int) d (pI q) Γ 0 [(0, .ref (D.2.2 3 r0))] [] μ
def pt_X3_lastDay_1 (l : Launch) (D : gD) (d : Nat) (q : Int32 → gMem → Prop) (Γ : gC) (r0 : Nat) (x1 : Int32) (x2 : Int32) (μ : gMem) : Prop := G l D RX3 cX3_lastDay 3 (some .int) d (pI q) Γ 4 [(0, .ref (D.2.2 3 r0)), (1, .int x1), (2, .int x2)] [] μ
def pt_X3_lastDay_2 (l : Launch) (D : gD) (d : Nat) (q : Int32 → gMem → Prop) (Γ : gC) (r0 : Nat) (x1 : Int32) (x2 : Int32) (μ : gMem) : Prop := G l D RX3 cX3_lastDay 3 (some .int) d (pI q) Γ 31 [(0, .ref (D.2.2 3 r0)), (1, .int x1), (2, .int x2)] [] μ
set_option maxRecDepth 20000 in
set_option maxHeartbeats 4000000 in
theorem bl_X3_lastDay_0 {l : Launch} {D : gD} {d : Nat} {q : Int32 → gMem → Prop} {Γ : gC} {r0 : Nat} {μ : gMem} (hr0 : r0 < 1) (h : ∀ x1_1 : Int32, x1_1 = (0 : Int32) → ∀ x2_2 : Int32, x2_2 = (0 : Int32) → pt_X3_lastDay_1 l D d q Γ r0 x1_1 x2_2 μ) : pt_X3_lastDay_0 l D d q Γ r0 μ := by
  unfold pt_X3_lastDay_0
  refine g_iconst (0 : Int32) dX3_lastDay_0 rfl ?_
  refine g_istore_n dX3_lastDay_1 (by decide) (fun x1_1 ex1_1 => g_sub (lv' := [(0, .ref (D.2.2 3 r0)), (1, .int x1_1)]) [1, 0] rfl ?_)
  have h := h x1_1 ex1_1
  refine g_iconst (0 : Int32) dX3_lastDay_2 rfl ?_
  refine g_istore_n dX3_lastDay_3 (by decide) (fun x2_2 ex2_2 => g_sub (lv' := [(0, .ref (D.2.2 3 r0)), (1, .int x1_1), (2, .int x2_2)]) [1, 2, 0] rfl ?_)
  have h := h x2_2 ex2_2
  exact g_sub [0, 1, 2] rfl h
set_option maxRecDepth 20000 in
set_option maxHeartbeats 4000000 in
theorem bl_X3_lastDay_1 {l : Launch} {D : gD} {d : Nat} {q : Int32 → gMem → Prop} {Γ : gC} {r0 : Nat} {x1 : Int32} {x2 : Int32} {μ : gMem} (hr0 : r0 < 1) (h : (0 < d) ∧ ((((fkn (μ.1 3 r0 7) (μ.1 3 r0 6)) ≤ x2) → q x1 μ) ∧ ((¬ (fkn (μ.1 3 r0 7) (μ.1 3 r0 6)) ≤ x2) → ∃ (d_6 : Nat) (q_7 : Int32 → gMem → Prop), d_6 < d ∧ Ctr l D d_6 yX3_isKnown cX3_isKnown 2 (some .boolean) [.ref (D.2.2 3 r0), .int x2] μ (pI q_7) ∧ ∀ (v_11 : Int32) (μ_10 : gMem), q_7 v_11 μ_10 → ((v_11 = 0) → pt_X3_lastDay_2 l D d q Γ r0 x1 x2 μ_10) ∧ ((¬ v_11 = 0) → ∃ j_14 : Nat, j_14 < 24 ∧ x2 = nI j_14 ∧ ((0 < d) ∧ (∀ x1_16 : Int32, x1_16 = imax x1 (μ_10.1 256 r0 j_14) → pt_X3_lastDay_2 l D d q Γ r0 x1_16 x2 μ_10)))))) : pt_X3_lastDay_1 l D d q Γ r0 x1 x2 μ := by
  unfold pt_X3_lastDay_1
  refine g_iload_n dX3_lastDay_4 rfl ?_
  refine g_aload_n dX3_lastDay_5 rfl ?_
  obtain ⟨hd_1, h⟩ := h
  refine g_cV ca_X3_42 ob_3 (c_X3_firstKnown (d := 0) (Nat.le_refl _) hr0 ) hd_1 (by decide) hr0 rfl rfl (by first | exact Nat.le_of_ble_eq_true rfl | decide) dX3_lastDay_6 (kI (fun v_2 μ_3 hq_4 => ?_))
  obtain ⟨ev_2, eμ_3⟩ := hq_4
  subst ev_2
  refine g_mem eμ_3 ?_
  refine g_icmp_ge (tgt := 37) dX3_lastDay_9 (by decide) (fun c_5 => ?_) (fun c_5 => ?_)
  · have h := h.1 c_5
    refine g_iload_n dX3_lastDay_37 rfl ?_
    exact g_iret dX3_lastDay_38 rfl rfl ⟨_, rfl, h⟩
  · have h := h.2 c_5
    refine g_aload_n dX3_lastDay_12 rfl ?_
    refine g_iload_n dX3_lastDay_13 rfl ?_
    obtain ⟨d_6, q_7, hd_8, hc_9, h⟩ := h
    refine g_cV ca_X3_46 ob_3 hc_9 hd_8 (by decide) hr0 rfl rfl (by first | exact Nat.le_of_ble_eq_true rfl | decide) dX3_lastDay_14 (kI (fun v_11 μ_10 hq_12 => ?_))
    have h := h v_11 μ_10 hq_12
    refine g_if_eq (tgt := 31) dX3_lastDay_17 (by decide) (fun c_13 => ?_) (fun c_13 => ?_)
    · have h := h.1 c_13
      exact g_sub [0, 1, 2] rfl h
    · have h := h.2 c_13
      refine g_iload_n dX3_lastDay_20 rfl ?_
      refine g_aload_n dX3_lastDay_21 rfl ?_
      refine g_gfR fl_3_9 rfl hr0 dX3_lastDay_22 ?_
      refine g_iload_n dX3_lastDay_25 rfl ?_
      obtain ⟨j_14, hj_14, ej_14, h⟩ := h
      refine g_iald j_14 hr0 rfl hj_14 (by decide) ej_14 dX3_lastDay_26 ?_
      obtain ⟨hd_15, h⟩ := h
      refine g_mmax hd_15 mk_X3_50 (by first | exact Nat.le_of_ble_eq_true rfl | decide) dX3_lastDay_27 ?_
      refine g_istore_n dX3_lastDay_30 (by decide) (fun x1_16 ex1_16 => g_sub (lv' := [(0, .ref (D.2.2 3 r0)), (1, .int x1_16), (2, .int x2)]) [1, 0, 2] rfl ?_)
      have h := h x1_16 ex1_16
      exact g_sub [0, 1, 2] rfl h
set_option maxRecDepth 20000 in
set_option maxHeartbeats 4000000 in
theorem bl_X3_lastDay_2 {l : Launch} {D : gD} {d : Nat} {q : Int32 → gMem → Prop} {Γ : gC} {r0 : Nat} {x1 : Int32} {x2 : Int32} {μ : gMem} (hr0 : r0 < 1) (h : ∀ x2_1 : Int32, x2_1 = x2 + (1 : Int32) → pt_X3_lastDay_1 l D d q Γ r0 x1 x2_1 μ) : pt_X3_lastDay_2 l D d q Γ r0 x1 x2 μ := by
  unfold pt_X3_lastDay_2
  refine g_iinc dX3_lastDay_31 rfl (by decide) (fun x2_1 ex2_1 => g_sub (lv' := [(0, .ref (D.2.2 3 r0)), (1, .int x1), (2, .int x2_1)]) [1, 2, 0] rfl ?_)
  have h := h x2_1 ex2_1
  refine g_goto (tgt := 4) dX3_lastDay_34 (by decide) ?_
  exact g_sub [0, 1, 2] rfl h
theorem en_X3_lastDay {l : Launch} {D : gD} {d : Nat} {q : Int32 → gMem → Prop} {r0 : Nat} {μ : gMem} (h : ∀ Γ : gC, pt_X3_lastDay_0 l D d q Γ r0 μ) : Ctr l D d yX3_lastDay cX3_lastDay 3 (some .int) [.ref (D.2.2 3 r0)] μ (pI q) :=
  Ctr_of rfl (by decide) (Nat.le_of_ble_eq_true rfl) (fun Γ => g_sub [0] rfl (h Γ))
def pt_X3_agree_0 (l : Launch) (D : gD) (d : Nat) (q : Int32 → gMem → Prop) (Γ : gC) (r0 : Nat) (x1 : Int32) (r2 : Nat) (μ : gMem) : Prop := G l D RX3 cX3_agree 4 (some .boolean) d (pI q) Γ 0 [(0, .ref (D.2.2 3 r0)), (1, .int x1), (2, .ref (D.2.2 8 r2))] [] μ
def pt_X3_agree_1 (l : Launch) (D : gD) (d : Nat) (q : Int32 → gMem → Prop) (Γ : gC) (r0 : Nat) (x1 : Int32) (r2 : Nat) (x3 : Int32) (μ : gMem) : Prop := G l D RX3 cX3_agree 4 (some .boolean) d (pI q) Γ 2 [(0, .ref (D.2.2 3 r0)), (1, .int x1), (2, .ref (D.2.2 8 r2)), (3, .int x3)] [] μ
def pt_X3_agree_2 (l : Launch) (D : gD) (d : Nat) (q : Int32 → gMem → Prop) (Γ : gC) (r0 : Nat) (x1 : Int32) (r2 : Nat) (x3 : Int32) (xs0 : Int32) (μ : gMem) : Prop := G l D RX3 cX3_agree 4 (some .boolean) d (pI q) Γ 56 [(0, .ref (D.2.2 3 r0)), (1, .int x1), (2, .ref (D.2.2 8 r2)), (3, .int x3)] [.int xs0] μ
def pt_X3_agree_3 (l : Launch) (D : gD) (d : Nat) (q : Int32 → gMem → Prop) (Γ : gC) (r0 : Nat) (x1 : Int32) (r2 : Nat) (x3 : Int32) (μ : gMem) : Prop := G l D RX3 cX3_agree 4 (some .boolean) d (pI q) Γ 67 [(0, .ref (D.2.2 3 r0)), (1, .int x1), (2, .ref (D.2.2 8 r2)), (3, .int x3)] [] μ
set_option maxRecDepth 20000 in
set_option maxHeartbeats 4000000 in
theorem bl_X3_agree_0 {l : Launch} {D : gD} {d : Nat} {q : Int32 → gMem → Prop} {Γ : gC} {r0 : Nat} {x1 : Int32} {r2 : Nat} {μ : gMem} (hr0 : r0 < 1) (hr2 : r2 < 3) (h : ∀ x3_1 : Int32, x3_1 = (0 : Int32) → pt_X3_agree_1 l D d q Γ r0 x1 r2 x3_1 μ) : pt_X3_agree_0 l D d q Γ r0 x1 r2 μ := by
  unfold pt_X3_agree_0
  refine g_iconst (0 : Int32) dX3_agree_0 rfl ?_
  refine g_istore_n dX3_agree_1 (by decide) (fun x3_1 ex3_1 => g_sub (lv' := [(0, .ref (D.2.2 3 r0)), (1, .int x1), (2, .ref (D.2.2 8 r2)), (3, .int x3_1)]) [1, 2, 3, 0] rfl ?_)
  have h := h x3_1 ex3_1
  exact g_sub [0, 1, 2, 3] rfl h
set_option maxRecDepth 20000 in
set_option maxHeartbeats 4000000 in
theorem bl_X3_agree_1 {l : Launch} {D : gD} {d : Nat} {q : Int32 → gMem → Prop} {Γ : gC} {r0 : Nat} {x1 : Int32} {r2 : Nat} {x3 : Int32} {μ : gMem} (hr0 : r0 < 1) (hr2 : r2 < 3) (h : (0 < d) ∧ ((((fkn (μ.1 3 r0 7) (μ.1 3 r0 6)) ≤ x3) → q (1 : Int32) μ) ∧ ((¬ (fkn (μ.1 3 r0 7) (μ.1 3 r0 6)) ≤ x3) → ∃ (d_6 : Nat) (q_7 : Int32 → gMem → Prop), d_6 < d ∧ Ctr l D d_6 yX3_isKnown cX3_isKnown 2 (some .boolean) [.ref (D.2.2 3 r0), .int x3] μ (pI q_7) ∧ ∀ (v_11 : Int32) (μ_10 : gMem), q_7 v_11 μ_10 → ((v_11 = 0) → pt_X3_agree_3 l D d q Γ r0 x1 r2 x3 μ_10) ∧ ((¬ v_11 = 0) → ∃ j_14 : Nat, j_14 < 24 ∧ x3 = nI j_14 ∧ (((¬ (μ_10.1 256 r0 j_14) = x1) → pt_X3_agree_3 l D d q Γ r0 x1 r2 x3 μ_10) ∧ (((μ_10.1 256 r0 j_14) = x1) → ∃ j_16 : Nat, j_16 < 24 ∧ x3 = nI j_16 ∧ (∃ j_17 : Nat, j_17 < 5 ∧ μ_10.1 257 r0 j_16 = nI j_17 ∧ (∃ j_19 : Nat, j_19 < 24 ∧ x3 = nI j_19 ∧ ((((μ_10.1 4 (5 * r2 + j_17) 6) < (μ_10.1 258 r0 j_19)) → pt_X3_agree_2 l D d q Γ r0 x1 r2 x3 (0 : Int32) μ_10) ∧ ((¬ (μ_10.1 4 (5 * r2 + j_17) 6) < (μ_10.1 258 r0 j_19)) → pt_X3_agree_2 l D d q Γ r0 x1 r2 x3 (1 : Int32) μ_10)))))))))) : pt_X3_agree_1 l D d q Γ r0 x1 r2 x3 μ := by
  unfold pt_X3_agree_1
  refine g_iload_n dX3_agree_2 rfl ?_
  refine g_aload_n dX3_agree_3 rfl ?_
  obtain ⟨hd_1, h⟩ := h
  refine g_cV ca_X3_42 ob_3 (c_X3_firstKnown (d := 0) (Nat.le_refl _) hr0 ) hd_1 (by decide) hr0 rfl rfl (by first | exact Nat.le_of_ble_eq_true rfl | decide) dX3_agree_4 (kI (fun v_2 μ_3 hq_4 => ?_))
  obtain ⟨ev_2, eμ_3⟩ := hq_4
  subst ev_2
  refine g_mem eμ_3 ?_
  refine g_icmp_ge (tgt := 73) dX3_agree_7 (by decide) (fun c_5 => ?_) (fun c_5 => ?_)
  · have h := h.1 c_5
    refine g_iconst (1 : Int32) dX3_agree_73 rfl ?_
    exact g_iret dX3_agree_74 rfl rfl ⟨_, rfl, h⟩
  · have h := h.2 c_5
    refine g_aload_n dX3_agree_10 rfl ?_
    refine g_iload_n dX3_agree_11 rfl ?_
    obtain ⟨d_6, q_7, hd_8, hc_9, h⟩ := h
    refine g_cV ca_X3_46 ob_3 hc_9 hd_8 (by decide) hr0 rfl rfl (by first | exact Nat.le_of_ble_eq_true rfl | decide) dX3_agree_12 (kI (fun v_11 μ_10 hq_12 => ?_))
    have h := h v_11 μ_10 hq_12
    refine g_if_eq (tgt := 67) dX3_agree_15 (by decide) (fun c_13 => ?_) (fun c_13 => ?_)
    · have h := h.1 c_13
      exact g_sub [0, 1, 2, 3] rfl h
    · have h := h.2 c_13
      refine g_aload_n dX3_agree_18 rfl ?_
      refine g_gfR fl_3_9 rfl hr0 dX3_agree_19 ?_
      refine g_iload_n dX3_agree_22 rfl ?_
      obtain ⟨j_14, hj_14, ej_14, h⟩ := h
      refine g_iald j_14 hr0 rfl hj_14 (by decide) ej_14 dX3_agree_23 ?_
      refine g_iload_n dX3_agree_24 rfl ?_
      refine g_icmp_ne (tgt := 67) dX3_agree_25 (by decide) (fun c_15 => ?_) (fun c_15 => ?_)
      · have h := h.1 c_15
        exact g_sub [0, 1, 2, 3] rfl h
      · have h := h.2 c_15
        refine g_aload_n dX3_agree_28 rfl ?_
        refine g_gfR fl_3_56 rfl hr2 dX3_agree_29 ?_
        refine g_aload_n dX3_agree_32 rfl ?_
        refine g_gfR fl_3_15 rfl hr0 dX3_agree_33 ?_
        refine g_iload_n dX3_agree_36 rfl ?_
        obtain ⟨j_16, hj_16, ej_16, h⟩ := h
        refine g_iald j_16 hr0 rfl hj_16 (by decide) ej_16 dX3_agree_37 ?_
        obtain ⟨j_17, hj_17, ej_17, h⟩ := h
        refine g_aald j_17 hr2 hj_17 ej_17 dX3_agree_38 ?_
        have hp_18 : 5 * r2 + j_17 < 15 := by have : r2 < 3 := hr2; omega
        refine g_gfI fi_3_62 hp_18 dX3_agree_39 ?_
        refine g_aload_n dX3_agree_42 rfl ?_
        refine g_gfR fl_3_18 rfl hr0 dX3_agree_43 ?_
        refine g_iload_n dX3_agree_46 rfl ?_
        obtain ⟨j_19, hj_19, ej_19, h⟩ := h
        refine g_iald j_19 hr0 rfl hj_19 (by decide) ej_19 dX3_agree_47 ?_
        refine g_icmp_lt (tgt := 55) dX3_agree_48 (by decide) (fun c_20 => ?_) (fun c_20 => ?_)
        · have h := h.1 c_20
          refine g_iconst (0 : Int32) dX3_agree_55 rfl ?_
          exact g_sub [0, 1, 2, 3] rfl h
        · have h := h.2 c_20
          refine g_iconst (1 : Int32) dX3_agree_51 rfl ?_
          refine g_goto (tgt := 56) dX3_agree_52 (by decide) ?_
          exact g_sub [0, 1, 2, 3] rfl h
set_option maxRecDepth 20000 in
set_option maxHeartbeats 4000000 in
theorem bl_X3_agree_2 {l : Launch} {D : gD} {d : Nat} {q : Int32 → gMem → Prop} {Γ : gC} {r0 : Nat} {x1 : Int32} {r2 : Nat} {x3 : Int32} {xs0 : Int32} {μ : gMem} (hr0 : r0 < 1) (hr2 : r2 < 3) (h : ∃ j_1 : Nat, j_1 < 24 ∧ x3 = nI j_1 ∧ (((xs0 = (μ.1 259 r0 j_1)) → pt_X3_agree_3 l D d q Γ r0 x1 r2 x3 μ) ∧ ((¬ xs0 = (μ.1 259 r0 j_1)) → q (0 : Int32) μ))) : pt_X3_agree_2 l D d q Γ r0 x1 r2 x3 xs0 μ := by
  unfold pt_X3_agree_2
  refine g_aload_n dX3_agree_56 rfl ?_
  refine g_gfR fl_3_21 rfl hr0 dX3_agree_57 ?_
  refine g_iload_n dX3_agree_60 rfl ?_
  obtain ⟨j_1, hj_1, ej_1, h⟩ := h
  refine g_zald j_1 hr0 rfl hj_1 (by decide) ej_1 dX3_agree_61 ?_
  refine g_icmp_eq (tgt := 67) dX3_agree_62 (by decide) (fun c_2 => ?_) (fun c_2 => ?_)
  · have h := h.1 c_2
    exact g_sub [0, 1, 2, 3] rfl h
  · have h := h.2 c_2
    refine g_iconst (0 : Int32) dX3_agree_65 rfl ?_
    exact g_iret dX3_agree_66 rfl rfl ⟨_, rfl, h⟩
set_option maxRecDepth 20000 in
set_option maxHeartbeats 4000000 in
theorem bl_X3_agree_3 {l : Launch} {D : gD} {d : Nat} {q : Int32 → gMem → Prop} {Γ : gC} {r0 : Nat} {x1 : Int32} {r2 : Nat} {x3 : Int32} {μ : gMem} (hr0 : r0 < 1) (hr2 : r2 < 3) (h : ∀ x3_1 : Int32, x3_1 = x3 + (1 : Int32) → pt_X3_agree_1 l D d q Γ r0 x1 r2 x3_1 μ) : pt_X3_agree_3 l D d q Γ r0 x1 r2 x3 μ := by
  unfold pt_X3_agree_3
  refine g_iinc dX3_agree_67 rfl (by decide) (fun x3_1 ex3_1 => g_sub (lv' := [(0, .ref (D.2.2 3 r0)), (1, .int x1), (2, .ref (D.2.2 8 r2)), (3, .int x3_1)]) [1, 2, 3, 0] rfl ?_)
  have h := h x3_1 ex3_1
  refine g_goto (tgt := 2) dX3_agree_70 (by decide) ?_
  exact g_sub [0, 1, 2, 3] rfl h
theorem en_X3_agree {l : Launch} {D : gD} {d : Nat} {q : Int32 → gMem → Prop} {r0 : Nat} {x1 : Int32} {r2 : Nat} {μ : gMem} (h : ∀ Γ : gC, pt_X3_agree_0 l D d q Γ r0 x1 r2 μ) : Ctr l D d yX3_agree cX3_agree 4 (some .boolean) [.ref (D.2.2 3 r0), .int x1, .ref (D.2.2 8 r2)] μ (pI q) :=
  Ctr_of rfl (by decide) (Nat.le_of_ble_eq_true rfl) (fun Γ => g_sub [0, 1, 2] rfl (h Γ))
def pt_X4_start_0 (l : Launch) (D : gD) (d : Nat) (q : gMem → Prop) (Γ : gC) (r0 : Nat) (r1 : Nat) (x2 : Int32) (μ : gMem) : Prop := G l D RX4 cX4_start 3 none d (pV q) Γ 0 [(0, .ref (D.2.2 4 r0)), (1, .ref (D.2.2 7 r1)), (2, .int x2)] [] μ
set_option maxRecDepth 20000 in
set_option maxHeartbeats 4000000 in
theorem bl_X4_start_0 {l : Launch} {D : gD} {d : Nat} {q : gMem → Prop} {Γ : gC} {r0 : Nat} {r1 : Nat} {x2 : Int32} {μ : gMem} (hr0 : r0 < 15) (hr1 : r1 < 2) (h : ∃ j_1 : Nat, j_1 < 5 ∧ x2 = nI j_1 ∧ (∀ μ_2 : gMem, μ_2 = gsI μ 4 r0 0 (μ.1 514 r1 j_1) → ∃ j_3 : Nat, j_3 < 5 ∧ x2 = nI j_3 ∧ (∀ μ_4 : gMem, μ_4 = gsI μ_2 4 r0 1 (μ_2.1 515 r1 j_3) → ∀ μ_5 : gMem, μ_5 = gsI μ_4 4 r0 2 (0 : Int32) → ∀ μ_6 : gMem, μ_6 = gsI μ_5 4 r0 3 (0 : Int32) → ∀ μ_7 : gMem, μ_7 = gsI μ_6 4 r0 4 (0 : Int32) → ∀ μ_8 : gMem, μ_8 = gsI μ_7 4 r0 5 (0 : Int32) → ∀ μ_9 : gMem, μ_9 = gsI μ_8 4 r0 6 (0 : Int32) → ∀ μ_10 : gMem, μ_10 = gsI μ_9 4 r0 7 (0 : Int32) → ∀ μ_11 : gMem, μ_11 = gsI μ_10 4 r0 8 (0 : Int32) → ∀ μ_12 : gMem, μ_12 = gsI μ_11 4 r0 9 (0 : Int32) → ∀ μ_13 : gMem, μ_13 = gsI μ_12 4 r0 10 (1 : Int32) → (0 < d) ∧ ∃ j_14 : Nat, j_14 + 6 ≤ 30 ∧ x2 * (6 : Int32) = nI j_14 ∧ ∃ j_15 : Nat, j_15 + 6 ≤ 6 ∧ (0 : Int32) = nI j_15 ∧ (∀ μ_16 : gMem, μ_16 = gcpy μ_13 523 r1 j_14 331 r0 j_15 6 → q μ_16)))) : pt_X4_start_0 l D d q Γ r0 r1 x2 μ := by
  unfold pt_X4_start_0
  refine g_aload_n dX4_start_0 rfl ?_
  refine g_aload_n dX4_start_1 rfl ?_
  refine g_gfR fl_4_15 rfl hr1 dX4_start_2 ?_
  refine g_iload_n dX4_start_5 rfl ?_
  obtain ⟨j_1, hj_1, ej_1, h⟩ := h
  refine g_iald j_1 hr1 rfl hj_1 (by decide) ej_1 dX4_start_6 ?_
  refine g_pfI fi_4_20 hr0 rfl rfl dX4_start_7 ?_
  obtain ⟨μ_2, eμ_2⟩ : ∃ z : gMem, z = gsI μ 4 r0 0 (μ.1 514 r1 j_1) := ⟨_, rfl⟩
  have h := h μ_2 eμ_2
  refine g_mem eμ_2.symm ?_
  refine g_aload_n dX4_start_10 rfl ?_
  refine g_aload_n dX4_start_11 rfl ?_
  refine g_gfR fl_4_23 rfl hr1 dX4_start_12 ?_
  refine g_iload_n dX4_start_15 rfl ?_
  obtain ⟨j_3, hj_3, ej_3, h⟩ := h
  refine g_iald j_3 hr1 rfl hj_3 (by decide) ej_3 dX4_start_16 ?_
  refine g_pfI fi_4_26 hr0 rfl rfl dX4_start_17 ?_
  obtain ⟨μ_4, eμ_4⟩ : ∃ z : gMem, z = gsI μ_2 4 r0 1 (μ_2.1 515 r1 j_3) := ⟨_, rfl⟩
  have h := h μ_4 eμ_4
  refine g_mem eμ_4.symm ?_
  refine g_aload_n dX4_start_20 rfl ?_
  refine g_iconst (0 : Int32) dX4_start_21 rfl ?_
  refine g_pfI fi_4_28 hr0 rfl rfl dX4_start_22 ?_
  obtain ⟨μ_5, eμ_5⟩ : ∃ z : gMem, z = gsI μ_4 4 r0 2 (0 : Int32) := ⟨_, rfl⟩
  have h := h μ_5 eμ_5
  refine g_mem eμ_5.symm ?_
  refine g_aload_n dX4_start_25 rfl ?_
  refine g_iconst (0 : Int32) dX4_start_26 rfl ?_
  refine g_pfI fi_4_31 hr0 rfl rfl dX4_start_27 ?_
  obtain ⟨μ_6, eμ_6⟩ : ∃ z : gMem, z = gsI μ_5 4 r0 3 (0 : Int32) := ⟨_, rfl⟩
  have h := h μ_6 eμ_6
  refine g_mem eμ_6.symm ?_
  refine g_aload_n dX4_start_30 rfl ?_
  refine g_iconst (0 : Int32) dX4_start_31 rfl ?_
  refine g_pfI fi_4_34 hr0 rfl rfl dX4_start_32 ?_
  obtain ⟨μ_7, eμ_7⟩ : ∃ z : gMem, z = gsI μ_6 4 r0 4 (0 : Int32) := ⟨_, rfl⟩
  have h := h μ_7 eμ_7
  refine g_mem eμ_7.symm ?_
  refine g_aload_n dX4_start_35 rfl ?_
  refine g_iconst (0 : Int32) dX4_start_36 rfl ?_
  refine g_pfI fi_4_37 hr0 rfl rfl dX4_start_37 ?_
  obtain ⟨μ_8, eμ_8⟩ : ∃ z : gMem, z = gsI μ_7 4 r0 5 (0 : Int32) := ⟨_, rfl⟩
  have h := h μ_8 eμ_8
  refine g_mem eμ_8.symm ?_
  refine g_aload_n dX4_start_40 rfl ?_
  refine g_iconst (0 : Int32) dX4_start_41 rfl ?_
  refine g_pfI fi_4_40 hr0 rfl rfl dX4_start_42 ?_
  obtain ⟨μ_9, eμ_9⟩ : ∃ z : gMem, z = gsI μ_8 4 r0 6 (0 : Int32) := ⟨_, rfl⟩
  have h := h μ_9 eμ_9
  refine g_mem eμ_9.symm ?_
  refine g_aload_n dX4_start_45 rfl ?_
  refine g_iconst (0 : Int32) dX4_start_46 rfl ?_
  refine g_pfI fi_4_43 hr0 rfl rfl dX4_start_47 ?_
  obtain ⟨μ_10, eμ_10⟩ : ∃ z : gMem, z = gsI μ_9 4 r0 7 (0 : Int32) := ⟨_, rfl⟩
  have h := h μ_10 eμ_10
  refine g_mem eμ_10.symm ?_
  refine g_aload_n dX4_start_50 rfl ?_
  refine g_iconst (0 : Int32) dX4_start_51 rfl ?_
  refine g_pfI fi_4_46 hr0 rfl rfl dX4_start_52 ?_
  obtain ⟨μ_11, eμ_11⟩ : ∃ z : gMem, z = gsI μ_10 4 r0 8 (0 : Int32) := ⟨_, rfl⟩
  have h := h μ_11 eμ_11
  refine g_mem eμ_11.symm ?_
  refine g_aload_n dX4_start_55 rfl ?_
  refine g_iconst (0 : Int32) dX4_start_56 rfl ?_
  refine g_pfI fi_4_49 hr0 rfl rfl dX4_start_57 ?_
  obtain ⟨μ_12, eμ_12⟩ : ∃ z : gMem, z = gsI μ_11 4 r0 9 (0 : Int32) := ⟨_, rfl⟩
  have h := h μ_12 eμ_12
  refine g_mem eμ_12.symm ?_
  refine g_aload_n dX4_start_60 rfl ?_
  refine g_iconst (1 : Int32) dX4_start_61 rfl ?_
  refine g_pfI fi_4_52 hr0 rfl rfl dX4_start_62 ?_
  obtain ⟨μ_13, eμ_13⟩ : ∃ z : gMem, z = gsI μ_12 4 r0 10 (1 : Int32) := ⟨_, rfl⟩
  have h := h μ_13 eμ_13
  refine g_mem eμ_13.symm ?_
  refine g_aload_n dX4_start_65 rfl ?_
  refine g_gfR fl_4_56 rfl hr1 dX4_start_66 ?_
  refine g_iload_n dX4_start_69 rfl ?_
  refine g_bipush (6 : Int32) dX4_start_70 rfl ?_
  refine g_imul dX4_start_72 ?_
  refine g_aload_n dX4_start_73 rfl ?_
  refine g_gfR fl_4_9 rfl hr0 dX4_start_74 ?_
  refine g_iconst (0 : Int32) dX4_start_77 rfl ?_
  refine g_bipush (6 : Int32) dX4_start_78 rfl ?_
  obtain ⟨hd_17, j_14, hj_14, ej_14, j_15, hj_15, ej_15, h⟩ := h
  refine g_copy hd_17 j_14 j_15 6 hr1 hr0 rfl rfl hj_14 hj_15 (by decide) (by decide) (by decide) ej_14 ej_15 rfl ac_X4_57 (by first | exact Nat.le_of_ble_eq_true rfl | decide) dX4_start_80 ?_
  obtain ⟨μ_16, eμ_16⟩ : ∃ z : gMem, z = gcpy μ_13 523 r1 j_14 331 r0 j_15 6 := ⟨_, rfl⟩
  have h := h μ_16 eμ_16
  refine g_mem eμ_16.symm ?_
  exact g_vret dX4_start_83 rfl ⟨rfl, h⟩
theorem en_X4_start {l : Launch} {D : gD} {d : Nat} {q : gMem → Prop} {r0 : Nat} {r1 : Nat} {x2 : Int32} {μ : gMem} (h : ∀ Γ : gC, pt_X4_start_0 l D d q Γ r0 r1 x2 μ) : Ctr l D d yX4_start cX4_start 3 none [.ref (D.2.2 4 r0), .ref (D.2.2 7 r1), .int x2] μ (pV q) :=
  Ctr_of rfl (by decide) (Nat.le_of_ble_eq_true rfl) (fun Γ => g_sub [0, 1, 2] rfl (h Γ))
def pt_X4_copyFrom_0 (l : Launch) (D : gD) (d : Nat) (q : gMem → Prop) (Γ : gC) (r0 : Nat) (r1 : Nat) (μ : gMem) : Prop := G l D RX4 cX4_copyFrom 2 none d (pV q) Γ 0 [(0, .ref (D.2.2 4 r0)), (1, .ref (D.2.2 4 r1))] [] μ
set_option maxRecDepth 20000 in
set_option maxHeartbeats 4000000 in
theorem bl_X4_copyFrom_0 {l : Launch} {D : gD} {d : Nat} {q : gMem → Prop} {Γ : gC} {r0 : Nat} {r1 : Nat} {μ : gMem} (hr0 : r0 < 15) (hr1 : r1 < 15) (h : ∀ μ_1 : gMem, μ_1 = gsI μ 4 r0 0 (μ.1 4 r1 0) → ∀ μ_2 : gMem, μ_2 = gsI μ_1 4 r0 1 (μ_1.1 4 r1 1) → ∀ μ_3 : gMem, μ_3 = gsI μ_2 4 r0 2 (μ_2.1 4 r1 2) → ∀ μ_4 : gMem, μ_4 = gsI μ_3 4 r0 3 (μ_3.1 4 r1 3) → ∀ μ_5 : gMem, μ_5 = gsI μ_4 4 r0 4 (μ_4.1 4 r1 4) → ∀ μ_6 : gMem, μ_6 = gsI μ_5 4 r0 5 (μ_5.1 4 r1 5) → ∀ μ_7 : gMem, μ_7 = gsI μ_6 4 r0 6 (μ_6.1 4 r1 6) → ∀ μ_8 : gMem, μ_8 = gsI μ_7 4 r0 7 (μ_7.1 4 r1 7) → ∀ μ_9 : gMem, μ_9 = gsI μ_8 4 r0 8 (μ_8.1 4 r1 8) → ∀ μ_10 : gMem, μ_10 = gsI μ_9 4 r0 9 (μ_9.1 4 r1 9) → (μ_10.1 4 r1 10 = 0 ∨ μ_10.1 4 r1 10 = 1) ∧ (∀ μ_11 : gMem, μ_11 = gsI μ_10 4 r0 10 (μ_10.1 4 r1 10) → (0 < d) ∧ ∃ j_13 : Nat, j_13 + 6 ≤ 6 ∧ (0 : Int32) = nI j_13 ∧ ∃ j_14 : Nat, j_14 + 6 ≤ 6 ∧ (0 : Int32) = nI j_14 ∧ (∀ μ_15 : gMem, μ_15 = gcpy μ_11 331 r1 j_13 331 r0 j_14 6 → q μ_15))) : pt_X4_copyFrom_0 l D d q Γ r0 r1 μ := by
  unfold pt_X4_copyFrom_0
  refine g_aload_n dX4_copyFrom_0 rfl ?_
  refine g_aload_n dX4_copyFrom_1 rfl ?_
  refine g_gfI fi_4_20 hr1 dX4_copyFrom_2 ?_
  refine g_pfI fi_4_20 hr0 rfl rfl dX4_copyFrom_5 ?_
  obtain ⟨μ_1, eμ_1⟩ : ∃ z : gMem, z = gsI μ 4 r0 0 (μ.1 4 r1 0) := ⟨_, rfl⟩
  have h := h μ_1 eμ_1
  refine g_mem eμ_1.symm ?_
  refine g_aload_n dX4_copyFrom_8 rfl ?_
  refine g_aload_n dX4_copyFrom_9 rfl ?_
  refine g_gfI fi_4_26 hr1 dX4_copyFrom_10 ?_
  refine g_pfI fi_4_26 hr0 rfl rfl dX4_copyFrom_13 ?_
  obtain ⟨μ_2, eμ_2⟩ : ∃ z : gMem, z = gsI μ_1 4 r0 1 (μ_1.1 4 r1 1) := ⟨_, rfl⟩
  have h := h μ_2 eμ_2
  refine g_mem eμ_2.symm ?_
  refine g_aload_n dX4_copyFrom_16 rfl ?_
  refine g_aload_n dX4_copyFrom_17 rfl ?_
  refine g_gfI fi_4_28 hr1 dX4_copyFrom_18 ?_
  refine g_pfI fi_4_28 hr0 rfl rfl dX4_copyFrom_21 ?_
  obtain ⟨μ_3, eμ_3⟩ : ∃ z : gMem, z = gsI μ_2 4 r0 2 (μ_2.1 4 r1 2) := ⟨_, rfl⟩
  have h := h μ_3 eμ_3
  refine g_mem eμ_3.symm ?_
  refine g_aload_n dX4_copyFrom_24 rfl ?_
  refine g_aload_n dX4_copyFrom_25 rfl ?_
  refine g_gfI fi_4_31 hr1 dX4_copyFrom_26 ?_
  refine g_pfI fi_4_31 hr0 rfl rfl dX4_copyFrom_29 ?_
  obtain ⟨μ_4, eμ_4⟩ : ∃ z : gMem, z = gsI μ_3 4 r0 3 (μ_3.1 4 r1 3) := ⟨_, rfl⟩
  have h := h μ_4 eμ_4
  refine g_mem eμ_4.symm ?_
  refine g_aload_n dX4_copyFrom_32 rfl ?_
  refine g_aload_n dX4_copyFrom_33 rfl ?_
  refine g_gfI fi_4_34 hr1 dX4_copyFrom_34 ?_
  refine g_pfI fi_4_34 hr0 rfl rfl dX4_copyFrom_37 ?_
  obtain ⟨μ_5, eμ_5⟩ : ∃ z : gMem, z = gsI μ_4 4 r0 4 (μ_4.1 4 r1 4) := ⟨_, rfl⟩
  have h := h μ_5 eμ_5
  refine g_mem eμ_5.symm ?_
  refine g_aload_n dX4_copyFrom_40 rfl ?_
  refine g_aload_n dX4_copyFrom_41 rfl ?_
  refine g_gfI fi_4_37 hr1 dX4_copyFrom_42 ?_
  refine g_pfI fi_4_37 hr0 rfl rfl dX4_copyFrom_45 ?_
  obtain ⟨μ_6, eμ_6⟩ : ∃ z : gMem, z = gsI μ_5 4 r0 5 (μ_5.1 4 r1 5) := ⟨_, rfl⟩
  have h := h μ_6 eμ_6
  refine g_mem eμ_6.symm ?_
  refine g_aload_n dX4_copyFrom_48 rfl ?_
  refine g_aload_n dX4_copyFrom_49 rfl ?_
  refine g_gfI fi_4_40 hr1 dX4_copyFrom_50 ?_
  refine g_pfI fi_4_40 hr0 rfl rfl dX4_copyFrom_53 ?_
  obtain ⟨μ_7, eμ_7⟩ : ∃ z : gMem, z = gsI μ_6 4 r0 6 (μ_6.1 4 r1 6) := ⟨_, rfl⟩
  have h := h μ_7 eμ_7
  refine g_mem eμ_7.symm ?_
  refine g_aload_n dX4_copyFrom_56 rfl ?_
  refine g_aload_n dX4_copyFrom_57 rfl ?_
  refine g_gfI fi_4_43 hr1 dX4_copyFrom_58 ?_
  refine g_pfI fi_4_43 hr0 rfl rfl dX4_copyFrom_61 ?_
  obtain ⟨μ_8, eμ_8⟩ : ∃ z : gMem, z = gsI μ_7 4 r0 7 (μ_7.1 4 r1 7) := ⟨_, rfl⟩
  have h := h μ_8 eμ_8
  refine g_mem eμ_8.symm ?_
  refine g_aload_n dX4_copyFrom_64 rfl ?_
  refine g_aload_n dX4_copyFrom_65 rfl ?_
  refine g_gfI fi_4_46 hr1 dX4_copyFrom_66 ?_
  refine g_pfI fi_4_46 hr0 rfl rfl dX4_copyFrom_69 ?_
  obtain ⟨μ_9, eμ_9⟩ : ∃ z : gMem, z = gsI μ_8 4 r0 8 (μ_8.1 4 r1 8) := ⟨_, rfl⟩
  have h := h μ_9 eμ_9
  refine g_mem eμ_9.symm ?_
  refine g_aload_n dX4_copyFrom_72 rfl ?_
  refine g_aload_n dX4_copyFrom_73 rfl ?_
  refine g_gfI fi_4_49 hr1 dX4_copyFrom_74 ?_
  refine g_pfI fi_4_49 hr0 rfl rfl dX4_copyFrom_77 ?_
  obtain ⟨μ_10, eμ_10⟩ : ∃ z : gMem, z = gsI μ_9 4 r0 9 (μ_9.1 4 r1 9) := ⟨_, rfl⟩
  have h := h μ_10 eμ_10
  refine g_mem eμ_10.symm ?_
  refine g_aload_n dX4_copyFrom_80 rfl ?_
  refine g_aload_n dX4_copyFrom_81 rfl ?_
  refine g_gfI fi_4_52 hr1 dX4_copyFrom_82 ?_
  obtain ⟨hz_12, h⟩ := h
  refine g_pfI fi_4_52 hr0 (nar_z hz_12).1 (nar_z hz_12).2 dX4_copyFrom_85 ?_
  obtain ⟨μ_11, eμ_11⟩ : ∃ z : gMem, z = gsI μ_10 4 r0 10 (μ_10.1 4 r1 10) := ⟨_, rfl⟩
  have h := h μ_11 eμ_11
  refine g_mem eμ_11.symm ?_
  refine g_aload_n dX4_copyFrom_88 rfl ?_
  refine g_gfR fl_4_9 rfl hr1 dX4_copyFrom_89 ?_
  refine g_iconst (0 : Int32) dX4_copyFrom_92 rfl ?_
  refine g_aload_n dX4_copyFrom_93 rfl ?_
  refine g_gfR fl_4_9 rfl hr0 dX4_copyFrom_94 ?_
  refine g_iconst (0 : Int32) dX4_copyFrom_97 rfl ?_
  refine g_bipush (6 : Int32) dX4_copyFrom_98 rfl ?_
  obtain ⟨hd_16, j_13, hj_13, ej_13, j_14, hj_14, ej_14, h⟩ := h
  refine g_copy hd_16 j_13 j_14 6 hr1 hr0 rfl rfl hj_13 hj_14 (by decide) (by decide) (by decide) ej_13 ej_14 rfl ac_X4_57 (by first | exact Nat.le_of_ble_eq_true rfl | decide) dX4_copyFrom_100 ?_
  obtain ⟨μ_15, eμ_15⟩ : ∃ z : gMem, z = gcpy μ_11 331 r1 j_13 331 r0 j_14 6 := ⟨_, rfl⟩
  have h := h μ_15 eμ_15
  refine g_mem eμ_15.symm ?_
  exact g_vret dX4_copyFrom_103 rfl ⟨rfl, h⟩
theorem en_X4_copyFrom {l : Launch} {D : gD} {d : Nat} {q : gMem → Prop} {r0 : Nat} {r1 : Nat} {μ : gMem} (h : ∀ Γ : gC, pt_X4_copyFrom_0 l D d q Γ r0 r1 μ) : Ctr l D d yX4_copyFrom cX4_copyFrom 2 none [.ref (D.2.2 4 r0), .ref (D.2.2 4 r1)] μ (pV q) :=
  Ctr_of rfl (by decide) (Nat.le_of_ble_eq_true rfl) (fun Γ => g_sub [0, 1] rfl (h Γ))
def pt_X4_stepsOn_0 (l : Launch) (D : gD) (d : Nat) (q : Int32 → gMem → Prop) (Γ : gC) (r0 : Nat) (x1 : Int32) (r2 : Nat) (μ : gMem) : Prop := G l D RX4 cX4_stepsOn 3 (some .int) d (pI q) Γ 0 [(0, .ref (D.2.2 4 r0)), (1, .int x1), (2, .ref (D.2.2 7 r2))] [] μ
def pt_X4_stepsOn_1 (l : Launch) (D : gD) (d : Nat) (q : Int32 → gMem → Prop) (Γ : gC) (r0 : Nat) (xs0 : Int32) (μ : gMem) : Prop := G l D RX4 cX4_stepsOn 3 (some .int) d (pI q) Γ 25 [(0, .ref (D.2.2 4 r0))] [.int xs0] μ
set_option maxRecDepth 20000 in
set_option maxHeartbeats 4000000 in
theorem bl_X4_stepsOn_0 {l : Launch} {D : gD} {d : Nat} {q : Int32 → gMem → Prop} {Γ : gC} {r0 : Nat} {x1 : Int32} {r2 : Nat} {μ : gMem} (hr0 : r0 < 15) (hr2 : r2 < 2) (h : (((μ.1 4 r0 10) = 0) → pt_X4_stepsOn_1 l D d q Γ r0 (0 : Int32) μ) ∧ ((¬ (μ.1 4 r0 10) = 0) → ∃ (d_2 : Nat) (q_3 : Int32 → gMem → Prop), d_2 < d ∧ Ctr l D d_2 yX7_inPlan cX7_inPlan 5 (some .int) [.ref (D.2.2 7 r2), .ref (D.2.2 520 r2), .ref (D.2.2 331 r0)] μ (pI q_3) ∧ ∀ (v_7 : Int32) (μ_6 : gMem), q_3 v_7 μ_6 → pt_X4_stepsOn_1 l D d q Γ r0 (x1 + v_7) μ_6)) : pt_X4_stepsOn_0 l D d q Γ r0 x1 r2 μ := by
  unfold pt_X4_stepsOn_0
  refine g_aload_n dX4_stepsOn_0 rfl ?_
  refine g_gfI fi_4_52 hr0 dX4_stepsOn_1 ?_
  refine g_if_eq (tgt := 24) dX4_stepsOn_4 (by decide) (fun c_1 => ?_) (fun c_1 => ?_)
  · have h := h.1 c_1
    refine g_iconst (0 : Int32) dX4_stepsOn_24 rfl ?_
    exact g_sub [0] rfl h
  · have h := h.2 c_1
    refine g_iload_n dX4_stepsOn_7 rfl ?_
    refine g_aload_n dX4_stepsOn_8 rfl ?_
    refine g_aload_n dX4_stepsOn_9 rfl ?_
    refine g_gfR fl_4_63 rfl hr2 dX4_stepsOn_10 ?_
    refine g_aload_n dX4_stepsOn_13 rfl ?_
    refine g_gfR fl_4_9 rfl hr0 dX4_stepsOn_14 ?_
    obtain ⟨d_2, q_3, hd_4, hc_5, h⟩ := h
    refine g_cV ca_X4_66 ob_7 hc_5 hd_4 (by decide) hr2 rfl rfl (by first | exact Nat.le_of_ble_eq_true rfl | decide) dX4_stepsOn_17 (kI (fun v_7 μ_6 hq_8 => ?_))
    have h := h v_7 μ_6 hq_8
    refine g_iadd dX4_stepsOn_20 ?_
    refine g_goto (tgt := 25) dX4_stepsOn_21 (by decide) ?_
    exact g_sub [0] rfl h
set_option maxRecDepth 20000 in
set_option maxHeartbeats 4000000 in
theorem bl_X4_stepsOn_1 {l : Launch} {D : gD} {d : Nat} {q : Int32 → gMem → Prop} {Γ : gC} {r0 : Nat} {xs0 : Int32} {μ : gMem} (hr0 : r0 < 15) (h : q (xs0 + (μ.1 4 r0 9)) μ) : pt_X4_stepsOn_1 l D d q Γ r0 xs0 μ := by
  unfold pt_X4_stepsOn_1
  refine g_aload_n dX4_stepsOn_25 rfl ?_
  refine g_gfI fi_4_49 hr0 dX4_stepsOn_26 ?_
  refine g_iadd dX4_stepsOn_29 ?_
  exact g_iret dX4_stepsOn_30 rfl rfl ⟨_, rfl, h⟩
theorem en_X4_stepsOn {l : Launch} {D : gD} {d : Nat} {q : Int32 → gMem → Prop} {r0 : Nat} {x1 : Int32} {r2 : Nat} {μ : gMem} (h : ∀ Γ : gC, pt_X4_stepsOn_0 l D d q Γ r0 x1 r2 μ) : Ctr l D d yX4_stepsOn cX4_stepsOn 3 (some .int) [.ref (D.2.2 4 r0), .int x1, .ref (D.2.2 7 r2)] μ (pI q) :=
  Ctr_of rfl (by decide) (Nat.le_of_ble_eq_true rfl) (fun Γ => g_sub [0, 1, 2] rfl (h Γ))
