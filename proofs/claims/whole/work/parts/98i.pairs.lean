/-! PAIRS: a call of the class and then the same of the reference: one answer, one state -/
def invS (μ : gMem) : Prop := ∃ t σ, cSt μ t σ ∧ mSt μ σ ∧ sOkS σ
theorem Ctr.mI {l : Launch} {D : gD} {d : Nat} {y : MethodName} {cc : ByteArray} {nL : Nat} {ret : Option FieldType} {av : List Value} {μ : gMem} {f g : Int32 → gMem → Prop} (h : Ctr l D d y cc nL ret av μ (pI f)) (hp : ∀ v μ', f v μ' → g v μ') : Ctr l D d y cc nL ret av μ (pI g) := by
  refine h.mono (fun r μ' hr => ?_)
  obtain ⟨v, er, hq⟩ := hr
  exact ⟨v, er, hp v μ' hq⟩
theorem Ctr.mJ {l : Launch} {D : gD} {d : Nat} {y : MethodName} {cc : ByteArray} {nL : Nat} {ret : Option FieldType} {av : List Value} {μ : gMem} {f g : Int64 → gMem → Prop} (h : Ctr l D d y cc nL ret av μ (pJ f)) (hp : ∀ v μ', f v μ' → g v μ') : Ctr l D d y cc nL ret av μ (pJ g) := by
  refine h.mono (fun r μ' hr => ?_)
  obtain ⟨v, er, hq⟩ := hr
  exact ⟨v, er, hp v μ' hq⟩
def prI (l : Launch) (D : gD) (y1 : MethodName) (cc1 : ByteArray) (nL1 : Nat) (y2 : MethodName) (cc2 : ByteArray) (nL2 : Nat) (ty : FieldType) (As : List Value) (μ : gMem) : Prop := ∃ V : Int32, Ctr l D 700 y1 cc1 nL1 (some ty) (.ref (D.2.2 9 0) :: As) μ (pI (fun v μ' => v = V ∧ Ctr l D 700 y2 cc2 nL2 (some ty) (.ref (D.2.2 10 0) :: As) μ' (pI (fun v' μ'' => v' = V ∧ invS μ''))))
def prJ (l : Launch) (D : gD) (y1 : MethodName) (cc1 : ByteArray) (nL1 : Nat) (y2 : MethodName) (cc2 : ByteArray) (nL2 : Nat) (As : List Value) (μ : gMem) : Prop := ∃ V : Int64, Ctr l D 700 y1 cc1 nL1 (some .long) (.ref (D.2.2 9 0) :: As) μ (pJ (fun v μ' => v = V ∧ Ctr l D 700 y2 cc2 nL2 (some .long) (.ref (D.2.2 10 0) :: As) μ' (pJ (fun v' μ'' => v' = V ∧ invS μ''))))
section PR
variable {l : Launch} {D : gD} {μ : gMem} {t : Nat} {σ : sV} {x1 x2 x3 x4 x5 : Int32}
theorem prQ {y1 y2 : MethodName} {cc1 cc2 : ByteArray} {nL1 nL2 : Nat} {ty : FieldType} {As : List Value} {V : Int32} (hc : cSt μ t σ) (hm : mSt μ σ) (hO : sOkS σ) (h1 : Ctr l D 700 y1 cc1 nL1 (some ty) (.ref (D.2.2 9 0) :: As) μ (pI (fun v μ' => v = V ∧ cwF μ μ' ∧ jk μ'))) (h2 : ∀ μ', mSt μ' σ → Ctr l D 700 y2 cc2 nL2 (some ty) (.ref (D.2.2 10 0) :: As) μ' (pI (fun v μ'' => v = V ∧ mvF μ' μ''))) : prI l D y1 cc1 nL1 y2 cc2 nL2 ty As μ := by
  refine ⟨V, h1.mI (fun v μ1 hq => ⟨hq.1, ?_⟩)⟩
  have hc1 := hc.cw hq.2.1 hq.2.2
  have hm1 := hm.kp hq.2.1.kp
  exact (h2 μ1 hm1).mI (fun v' μ2 hq2 => ⟨hq2.1, t, σ, hc1.kp hq2.2.kp, hm1.mv hO hq2.2, hO⟩)
theorem prS {y1 y2 : MethodName} {cc1 cc2 : ByteArray} {nL1 nL2 : Nat} {ty : FieldType} {As : List Value} {V : Int32} {σ' : sV} (hm : mSt μ σ) (h1 : Ctr l D 700 y1 cc1 nL1 (some ty) (.ref (D.2.2 9 0) :: As) μ (pI (fun v μ' => v = V ∧ cSt μ' t σ' ∧ mKp μ μ'))) (h2 : ∀ μ', mSt μ' σ → Ctr l D 700 y2 cc2 nL2 (some ty) (.ref (D.2.2 10 0) :: As) μ' (pI (fun v μ'' => v = V ∧ mSt μ'' σ' ∧ cKp μ' μ''))) (hO' : sOkS σ') : prI l D y1 cc1 nL1 y2 cc2 nL2 ty As μ := by
  refine ⟨V, h1.mI (fun v μ1 hq => ⟨hq.1, ?_⟩)⟩
  exact (h2 μ1 (hm.kp hq.2.2)).mI (fun v' μ2 hq2 => ⟨hq2.1, t, σ', hq.2.1.kp hq2.2.2, hq2.2.1, hO'⟩)
theorem same_cw {μ' : gMem} (hc : cSt μ t σ) (e : μ' = μ) : cwF μ μ' ∧ jk μ' := by
  rw [e]
  exact ⟨cwF.rf, hc.2.2.1⟩
theorem namF_cong {men n : Nat} {f g f' g' : Nat → Int32} (hf : ∀ k, k < men → f k = f' k) (hg : ∀ k, k < n → g k = g' k) : namF men n f g x1 x2 = namF men n f' g' x1 x2 := by
  unfold namF
  rw [fndL_cong men 0 (fun k _ hk => hf k (by omega)), fndL_cong n 0 (fun k _ hk => hg k (by omega))]
theorem dedF_cong {n : Nat} {f g h f' g' h' : Nat → Int32} (hf : ∀ k, k < n → f k = f' k ∧ g k = g' k ∧ h k = h' k) : dedF n f g h x1 x2 = dedF n f' g' h' x1 x2 := by
  unfold dedF
  by_cases hi : isM n x1
  · have := hf (ix x1) (ix_lt hi)
    rw [if_pos hi, if_pos hi, this.1, this.2.1, this.2.2]
  · rw [if_neg hi, if_neg hi]
theorem timF_cong {men n : Nat} {f f' : Nat → Nat → Int32} (hf : ∀ k, k < men → ∀ z, z < n → f k z = f' k z) : timF men n f x1 x2 = timF men n f' x1 x2 := by
  unfold timF
  by_cases hi : isM men x1 ∧ isM n x2
  · rw [if_pos hi, if_pos hi, hf _ (ix_lt hi.1) _ (ix_lt hi.2)]
  · rw [if_neg hi, if_neg hi]
theorem row_C (hc : cSt μ t σ) {k : Nat} (hk : k < 5) : μ.1 331 k = σ.2.1.2.1 k := by
  have := hc.2.2.2.2.1.2.1 k hk
  rw [Nat.mul_zero, Nat.zero_add] at this
  exact this
theorem row_M (hm : mSt μ σ) {k z : Nat} (hk : k < 5) (hz : z < 6) : μ.1 751 0 (6 * k + z) = σ.2.1.2.1 k z := by
  have := hm.2.2.1.2.1 k hk z hz
  rw [Nat.mul_zero, Nat.zero_add] at this
  exact this
theorem pr_feed (h : invS μ) : prI l D yX9_feed cX9_feed 6 yX10_feed cX10_feed 8 .int [.int x1, .int x2, .int x3, .int x4, .int x5] μ := by
  obtain ⟨t, σ, hc, hm, hO⟩ := h
  exact prS hm (c_X9_feed (by omega) hc hO) (fun μ' hm' => c_X10_feed hm' hO) (feedS_ok hO)
theorem pr_goal (h : invS μ) : prI l D yX9_goal cX9_goal 3 yX10_goal cX10_goal 3 .boolean [.int x1, .int x2] μ := by
  obtain ⟨t, σ, hc, hm, hO⟩ := h
  exact prS hm (c_X9_goal (by omega) hc hO) (fun μ' hm' => c_X10_goal (by omega) hm' hO) (goalS_ok hO)
theorem pr_plan (h : invS μ) : prI l D yX9_plan cX9_plan 5 yX10_plan cX10_plan 4 .boolean [.int x1, .int x2, .int x3] μ := by
  obtain ⟨t, σ, hc, hm, hO⟩ := h
  exact prS hm (c_X9_plan (by omega) hc hO) (fun μ' hm' => c_X10_plan (by omega) hm' hO) (planS_ok hO)
theorem pr_lend (h : invS μ) : prI l D yX9_lend cX9_lend 4 yX10_lend cX10_lend 3 .int [.int x1, .int x2] μ := by
  obtain ⟨t, σ, hc, hm, hO⟩ := h
  exact prS hm (c_X9_lend (by omega) hc hO) (fun μ' hm' => c_X10_lend (by omega) hm' hO) (lendS_ok hO)
theorem pr_go (h : invS μ) : prI l D yX9_go cX9_go 3 yX10_go cX10_go 3 .int [.int x1] μ := by
  obtain ⟨t, σ, hc, hm, hO⟩ := h
  exact prS hm (c_X9_go (by omega) hc hO) (fun μ' hm' => c_X10_go (by omega) hm' hO) (goS_ok hO)
theorem pr_note (h : invS μ) : prI l D yX9_note cX9_note 5 yX10_note cX10_note 5 .int [.int x1, .int x2, .int x3, .int x4] μ := by
  obtain ⟨t, σ, hc, hm, hO⟩ := h
  exact prS hm (c_X9_note (by omega) hc hO) (fun μ' hm' => c_X10_note (by omega) hm' hO) (noteS_ok hO)
theorem pr_out (h : invS μ) : prI l D yX9_out cX9_out 2 yX10_out cX10_out 2 .int [.int x1] μ := by
  obtain ⟨t, σ, hc, hm, hO⟩ := h
  exact prS hm (c_X9_out (by omega) hc hO) (fun μ' hm' => c_X10_out hm' hO) (outS_ok hO)
theorem pr_known (h : invS μ) : prI l D yX9_known cX9_known 2 yX10_known cX10_known 2 .boolean [.int x1] μ := by
  obtain ⟨t, σ, hc, hm, hO⟩ := h
  exact prS hm (c_X9_known (by omega) hc hO) (fun μ' hm' => c_X10_known hm' hO) (knowS_ok hO)
theorem pr_undo (h : invS μ) : prI l D yX9_undo cX9_undo 1 yX10_undo cX10_undo 1 .int [] μ := by
  obtain ⟨t, σ, hc, hm, hO⟩ := h
  exact prS hm (c_X9_undo (by omega) hc hO) (fun μ' hm' => c_X10_undo (by omega) hm' hO) (undoS_ok hO)
theorem pr_keep (h : invS μ) : prI l D yX9_keep cX9_keep 1 yX10_keep cX10_keep 1 .int [] μ := by
  obtain ⟨t, σ, hc, hm, hO⟩ := h
  exact prS hm (c_X9_keep (by omega) hc hO) (fun μ' hm' => c_X10_keep (by omega) hm' hO) (keepS_ok hO)
theorem pr_back (h : invS μ) : prI l D yX9_back cX9_back 1 yX10_back cX10_back 1 .int [] μ := by
  obtain ⟨t, σ, hc, hm, hO⟩ := h
  exact prS hm (c_X9_back (by omega) hc hO) (fun μ' hm' => c_X10_back (by omega) hm' hO) (backS_ok hO)
theorem pr_wear (hx : x2 = 0 ∨ x2 = 1) (h : invS μ) : prI l D yX9_wear cX9_wear 3 yX10_wear cX10_wear 3 .boolean [.int x1, .int x2] μ := by
  obtain ⟨t, σ, hc, hm, hO⟩ := h
  exact prS hm (c_X9_wear (by omega) hc hO hx) (fun μ' hm' => c_X10_wear (by omega) hm' hO hx) (wearS_ok hO hx)
theorem pr_count (h : invS μ) : prI l D yX9_count cX9_count 2 yX10_count cX10_count 2 .int [.int x1] μ := by
  obtain ⟨t, σ, hc, hm, hO⟩ := h
  exact prS hm ((c_X9_count (by omega) hc hO).mI (fun v μ' hq => ⟨hq.1, by rw [hq.2]; exact hc, by rw [hq.2]; exact mKp.rf⟩)) (fun μ' hm' => c_X10_count (by omega) hm' hO) hO
theorem pr_ahead (h : invS μ) : prI l D yX9_ahead cX9_ahead 5 yX10_ahead cX10_ahead 5 .int [.int x1, .int x2, .int x3] μ := by
  obtain ⟨t, σ, hc, hm, hO⟩ := h
  exact prQ hc hm hO ((c_X9_ahead (by omega) (hc.nC hO)).mI (fun v μ' hq => ⟨hq.1, hq.2.1.w, hq.2.2⟩)) (fun μ' hm' => (c_X10_ahead (by omega) (hm'.nM hO)).mI (fun v μ'' hq => ⟨by rw [wt_eq hc hm']; exact hq.1, hq.2.v⟩))
theorem pr_reaches (h : invS μ) : prI l D yX9_reaches cX9_reaches 5 yX10_reaches cX10_reaches 4 .int [.int x1, .int x2] μ := by
  obtain ⟨t, σ, hc, hm, hO⟩ := h
  exact prQ hc hm hO ((c_X9_reaches (by omega) (hc.nC hO)).mI (fun v μ' hq => ⟨hq.1, hq.2.1.w, hq.2.2⟩)) (fun μ' hm' => (c_X10_reaches (by omega) (hm'.nM hO)).mI (fun v μ'' hq => ⟨by rw [wt_eq hc hm']; exact hq.1, hq.2.v⟩))
theorem pr_longest (h : invS μ) : prI l D yX9_longest cX9_longest 6 yX10_longest cX10_longest 5 .int [.int x1, .int x2] μ := by
  obtain ⟨t, σ, hc, hm, hO⟩ := h
  exact prQ hc hm hO ((c_X9_longest (by omega) (hc.nC hO)).mI (fun v μ' hq => ⟨hq.1, hq.2.1.w, hq.2.2⟩)) (fun μ' hm' => (c_X10_longest (by omega) (hm'.nM hO)).mI (fun v μ'' hq => ⟨by rw [wt_eq hc hm']; exact hq.1, hq.2.v⟩))
theorem pr_moves (h : invS μ) : prI l D yX9_moves cX9_moves 9 yX10_moves cX10_moves 8 .int [.int x1, .int x2, .int x3] μ := by
  obtain ⟨t, σ, hc, hm, hO⟩ := h
  exact prQ hc hm hO ((c_X9_moves (by omega) (hc.nC hO)).mI (fun v μ' hq => ⟨hq.1, hq.2.1.w, hq.2.2⟩)) (fun μ' hm' => (c_X10_moves (by omega) (hm'.nM hO)).mI (fun v μ'' hq => ⟨by rw [wt_eq hc hm']; exact hq.1, hq.2.v⟩))
theorem pr_winner (h : invS μ) : prI l D yX9_winner cX9_winner 2 yX10_winner cX10_winner 3 .int [.int x1] μ := by
  obtain ⟨t, σ, hc, hm, hO⟩ := h
  exact prQ hc hm hO ((c_X9_winner (by omega) (hc.nC hO)).mI (fun v μ' hq => ⟨hq.1, hq.2.1.w, hq.2.2⟩)) (fun μ' hm' => (c_X10_winner (by omega) (hm'.nM hO)).mI (fun v μ'' hq => ⟨by rw [wt_eq hc hm']; exact hq.1, hq.2.v⟩))
theorem pr_needs (h : invS μ) : prI l D yX9_needs cX9_needs 2 yX10_needs cX10_needs 3 .int [.int x1] μ := by
  obtain ⟨t, σ, hc, hm, hO⟩ := h
  exact prQ hc hm hO ((c_X9_needs (by omega) (hc.nC hO)).mI (fun v μ' hq => ⟨hq.1, hq.2.1.w, hq.2.2⟩)) (fun μ' hm' => (c_X10_needs (by omega) (hm'.nM hO)).mI (fun v μ'' hq => ⟨by rw [wt_eq hc hm']; exact hq.1, hq.2.v⟩))
theorem pr_falls (h : invS μ) : prI l D yX9_falls cX9_falls 4 yX10_falls cX10_falls 3 .int [.int x1, .int x2] μ := by
  obtain ⟨t, σ, hc, hm, hO⟩ := h
  exact prQ hc hm hO ((c_X9_falls (by omega) (hc.nC hO)).mI (fun v μ' hq => ⟨hq.1, hq.2.1.w, hq.2.2⟩)) (fun μ' hm' => (c_X10_falls (by omega) (hm'.nM hO)).mI (fun v μ'' hq => ⟨by rw [wt_eq hc hm']; exact hq.1, hq.2.v⟩))
theorem pr_earns (h : invS μ) : prI l D yX9_earns cX9_earns 6 yX10_earns cX10_earns 5 .int [.int x1, .int x2, .int x3] μ := by
  obtain ⟨t, σ, hc, hm, hO⟩ := h
  exact prQ hc hm hO ((c_X9_earns (by omega) (hc.nC hO)).mI (fun v μ' hq => ⟨hq.1, hq.2.1.w, hq.2.2⟩)) (fun μ' hm' => (c_X10_earns (by omega) (hm'.nM hO)).mI (fun v μ'' hq => ⟨by rw [wt_eq hc hm']; exact hq.1, hq.2.v⟩))
theorem pr_habit (h : invS μ) : prI l D yX9_habit cX9_habit 4 yX10_habit cX10_habit 3 .int [.int x1] μ := by
  obtain ⟨t, σ, hc, hm, hO⟩ := h
  exact prQ hc hm hO ((c_X9_habit (by omega) (hc.nC hO)).mI (fun v μ' hq => ⟨hq.1, hq.2.1.w, hq.2.2⟩)) (fun μ' hm' => (c_X10_habit (by omega) (hm'.nM hO)).mI (fun v μ'' hq => ⟨by rw [wt_eq hc hm']; exact hq.1, hq.2.v⟩))
theorem pr_breaks (h : invS μ) : prI l D yX9_breaks cX9_breaks 5 yX10_breaks cX10_breaks 5 .int [.int x1, .int x2] μ := by
  obtain ⟨t, σ, hc, hm, hO⟩ := h
  exact prQ hc hm hO ((c_X9_breaks (by omega) (hc.nC hO)).mI (fun v μ' hq => ⟨hq.1, hq.2.1.w, hq.2.2⟩)) (fun μ' hm' => (c_X10_breaks (by omega) (hm'.nM hO)).mI (fun v μ'' hq => ⟨by rw [wt_eq hc hm']; exact hq.1, hq.2.v⟩))
theorem pr_tried (h : invS μ) : prI l D yX9_tried cX9_tried 7 yX10_tried cX10_tried 5 .int [.int x1, .int x2, .int x3] μ := by
  obtain ⟨t, σ, hc, hm, hO⟩ := h
  exact prQ hc hm hO ((c_X9_tried (by omega) (hc.nC hO)).mI (fun v μ' hq => ⟨hq.1, hq.2.1.w, hq.2.2⟩)) (fun μ' hm' => (c_X10_tried (by omega) (hm'.nM hO)).mI (fun v μ'' hq => ⟨by rw [wt_eq hc hm']; exact hq.1, hq.2.v⟩))
theorem pr_rests (h : invS μ) : prI l D yX9_rests cX9_rests 5 yX10_rests cX10_rests 3 .int [.int x1, .int x2] μ := by
  obtain ⟨t, σ, hc, hm, hO⟩ := h
  exact prQ hc hm hO (c_X9_rests (by omega) (hc.nC hO)) (fun μ' hm' => (c_X10_rests (by omega) (hm'.nM hO) hO.2.1.2.1).mI (fun v μ'' hq => ⟨by rw [wt_eq hc hm']; exact hq.1, hq.2⟩))
theorem pr_rest (h : invS μ) : prI l D yX9_rest cX9_rest 6 yX10_rest cX10_rest 4 .int [.int x1, .int x2, .int x3] μ := by
  obtain ⟨t, σ, hc, hm, hO⟩ := h
  exact prQ hc hm hO (c_X9_rest (by omega) (hc.nC hO)) (fun μ' hm' => (c_X10_rest (by omega) (hm'.nM hO) hO.2.1.2.1).mI (fun v μ'' hq => ⟨by rw [wt_eq hc hm']; exact hq.1, hq.2⟩))
theorem pr_has (h : invS μ) : prI l D yX9_has cX9_has 4 yX10_has cX10_has 3 .int [.int x1, .int x2] μ := by
  obtain ⟨t, σ, hc, hm, hO⟩ := h
  exact prQ hc hm hO ((c_X9_has (by omega) (hc.nC hO)).mI (fun v μ' hq => ⟨hq.1, same_cw hc hq.2⟩)) (fun μ' hm' => (c_X10_has (by omega) (hm'.nM hO)).mI (fun v μ'' hq => ⟨hq.1, hq.2.v⟩))
theorem pr_leads (h : invS μ) : prI l D yX9_leads cX9_leads 1 yX10_leads cX10_leads 1 .int [] μ := by
  obtain ⟨t, σ, hc, hm, hO⟩ := h
  exact prQ hc hm hO ((c_X9_leads (by omega) (hc.nC hO)).mI (fun v μ' hq => ⟨hq.1, same_cw hc hq.2⟩)) (fun μ' hm' => (c_X10_leads (by omega) (hm'.nM hO)).mI (fun v μ'' hq => ⟨hq.1, hq.2.v⟩))
theorem pr_rank (h : invS μ) : prI l D yX9_rank cX9_rank 6 yX10_rank cX10_rank 4 .int [.int x1] μ := by
  obtain ⟨t, σ, hc, hm, hO⟩ := h
  exact prQ hc hm hO ((c_X9_rank (by omega) (hc.nC hO)).mI (fun v μ' hq => ⟨hq.1, same_cw hc hq.2⟩)) (fun μ' hm' => (c_X10_rank (by omega) (hm'.nM hO)).mI (fun v μ'' hq => ⟨hq.1, hq.2.v⟩))
theorem pr_fault (h : invS μ) : prI l D yX9_fault cX9_fault 2 yX10_fault cX10_fault 2 .int [.int x1] μ := by
  obtain ⟨t, σ, hc, hm, hO⟩ := h
  refine prQ (V := fauF σ.2.2.2.2.2.2.2.1 σ.2.2.2.2.2.2.2.2 x1) hc hm hO (c_X9_fault.mI (fun v μ' hq => ⟨?_, same_cw hc hq.2⟩)) (fun μ' hm' => (c_X10_fault (hm'.nM hO)).mI (fun v μ'' hq => ⟨?_, hq.2.v⟩))
  · have hT := hc.2.2.2.2.2.2.2.2
    rw [← hT.2.2.1, ← hT.2.2.2.1]
    exact hq.1
  · have hT := hm'.2.2.2.2.2.2
    rw [← hT.2.2.1, ← hT.2.2.2]
    exact hq.1
theorem pr_named (h : invS μ) : prI l D yX9_named cX9_named 3 yX10_named cX10_named 3 .int [.int x1, .int x2] μ := by
  obtain ⟨t, σ, hc, hm, hO⟩ := h
  refine prQ (V := namF (eMen σ.1.1) σ.1.2.1 σ.1.2.2.2.2.1 σ.1.2.2.2.2.2.1 x1 x2) hc hm hO ((c_X9_named (by omega) (hc.nC hO)).mI (fun v μ' hq => ⟨?_, same_cw hc hq.2⟩)) (fun μ' hm' => (c_X10_named (by omega) (hm'.nM hO)).mI (fun v μ'' hq => ⟨?_, hq.2.v⟩))
  · exact hq.1.trans (namF_cong (fun k hk => hc.2.2.2.1.2.2.2.1 k hk) (fun k hk => (hc.2.2.2.1.2.2.1 k hk).2))
  · exact hq.1.trans (namF_cong (fun k hk => hm'.2.1.2.2.2.1 k hk) (fun k hk => (hm'.2.1.2.2.1 k hk).2))
theorem pr_deed (h : invS μ) : prI l D yX9_deed cX9_deed 3 yX10_deed cX10_deed 3 .int [.int x1, .int x2] μ := by
  obtain ⟨t, σ, hc, hm, hO⟩ := h
  refine prQ (V := dedF σ.1.2.1 σ.1.2.2.1.1 σ.1.2.2.1.2.1 σ.1.2.2.2.1 x1 x2) hc hm hO ((c_X9_deed (by omega) (hc.nC hO)).mI (fun v μ' hq => ⟨?_, same_cw hc hq.2⟩)) (fun μ' hm' => (c_X10_deed (by omega) (hm'.nM hO)).mI (fun v μ'' hq => ⟨?_, hq.2.v⟩))
  · exact hq.1.trans (dedF_cong (fun k hk => ⟨(hc.2.2.2.1.2.1.1 k hk).1, (hc.2.2.2.1.2.1.1 k hk).2, (hc.2.2.2.1.2.2.1 k hk).1⟩))
  · exact hq.1.trans (dedF_cong (fun k hk => ⟨(hm'.2.1.2.1.1 k hk).1, (hm'.2.1.2.1.1 k hk).2, (hm'.2.1.2.2.1 k hk).1⟩))
theorem pr_times (h : invS μ) : prI l D yX9_times cX9_times 3 yX10_times cX10_times 3 .int [.int x1, .int x2] μ := by
  obtain ⟨t, σ, hc, hm, hO⟩ := h
  have hm5 := hO.1.1.1
  have hn6 := hO.1.2.1
  refine prQ (V := timF (eMen σ.1.1) σ.1.2.1 σ.2.1.2.1 x1 x2) hc hm hO ((c_X9_times (by omega) (hc.nC hO)).mI (fun v μ' hq => ⟨?_, same_cw hc hq.2⟩)) (fun μ' hm' => (c_X10_times (by omega) (hm'.nM hO)).mI (fun v μ'' hq => ⟨?_, hq.2.v⟩))
  · exact hq.1.trans (timF_cong (fun k hk z hz => by rw [row_C hc (k := k) (Nat.lt_of_lt_of_le hk hm5)]))
  · exact hq.1.trans (timF_cong (fun k hk z hz => row_M hm' (Nat.lt_of_lt_of_le hk hm5) (by omega)))
theorem pr_law (h : invS μ) : prJ l D yX9_law cX9_law 4 yX10_law cX10_law 4 [.int x1, .int x2] μ := by
  obtain ⟨t, σ, hc, hm, hO⟩ := h
  refine ⟨_, (c_X9_law (by omega) (hc.nC hO)).mJ (fun v μ1 hq => ⟨hq.1, ?_⟩)⟩
  have hc1 := hc.cw hq.2.1.w hq.2.2
  have hm1 := hm.kp hq.2.1.w.kp
  exact (c_X10_law (by omega) (hm1.nM hO)).mJ (fun v' μ2 hq2 => ⟨hq2.1, t, σ, hc1.kp hq2.2.v.kp, hm1.mv hO hq2.2.v, hO⟩)
theorem pr_deeds (h : invS μ) : prI l D yX9_deeds cX9_deeds 3 yX10_deeds cX10_deeds 11 .int [.int x1, .int x2] μ := by
  obtain ⟨t, σ, hc, hm, hO⟩ := h
  refine prQ hc hm hO (c_X9_deeds (f := σ.1.2.2.1.2.1) (g := σ.1.2.2.2.1) (by omega) (hc.nC hO) (fun z hz => ⟨(hc.2.2.2.1.2.1.1 z hz).2, (hO.1.2.2.2.1 z hz).2⟩) (fun z hz => ⟨(hc.2.2.2.1.2.2.1 z hz).1, ?_⟩)) (fun μ' hm' => (c_X10_deeds (f := σ.1.2.2.1.2.1) (g := σ.1.2.2.2.1) (by omega) (hm'.nM hO) (fun z hz => (hm'.2.1.2.1.1 z hz).2) (fun z hz => (hm'.2.1.2.2.1 z hz).1)).mI (fun v μ'' hq => ⟨hq.1, hq.2.v⟩))
  have := hO.1.2.2.2.2.1 z hz
  exact ⟨this.1, Int.le_trans this.2 (by decide)⟩
theorem pr_falseOnes (h : invS μ) : prI l D yX9_falseOnes cX9_falseOnes 7 yX10_falseOnes cX10_falseOnes 7 .int [.int x1, .int x2] μ := by
  obtain ⟨t, σ, hc, hm, hO⟩ := h
  exact prQ hc hm hO ((c_X9_falseOnes (T := σ.1.2.2.1) (R := σ.2.1.2.1) (by omega) (hc.nC hO) hc.2.2.2.1.2.1 hO.1.2.2.2.1 (fun p hp z hz => ⟨hO.2.1.2.2.1 p hp z hz, by rw [row_C hc hp]⟩)).mI (fun v μ' hq => ⟨hq.1, same_cw hc hq.2⟩)) (fun μ' hm' => (c_X10_falseOnes (T := σ.1.2.2.1) (R := σ.2.1.2.1) (by omega) (hm'.nM hO) hm'.2.1.2.1 hO.1.2.2.2.1 (fun p hp z hz => ⟨hO.2.1.2.2.1 p hp z hz, row_M hm' hp hz⟩)).mI (fun v μ'' hq => ⟨hq.1, hq.2.v⟩))
theorem pr_fits (h : invS μ) : prI l D yX9_fits cX9_fits 5 yX10_fits cX10_fits 6 .int [.int x1, .int x2] μ := by
  obtain ⟨t, σ, hc, hm, hO⟩ := h
  obtain ⟨kn, hk1, hk2⟩ : ∃ kn, kn ≤ σ.2.2.1.1 ∧ fkn σ.2.2.1.2.1 (nI σ.2.2.1.1) = nI kn := by
    rcases hO.2.2.1.2.1 with hk | ⟨k, hk, ek⟩
    · exact ⟨σ.2.2.1.1, Nat.le_refl _, by unfold fkn; rw [if_pos hk]⟩
    · have h24 := hO.2.2.1.1
      refine ⟨k, hk, ?_⟩
      unfold fkn
      rw [ek, if_neg (nI_nm1 (by omega))]
  have h24 := hO.2.2.1.1
  have hNO : ntOk (eMen σ.1.1) kn σ.2.2.1.2.2 := fun k hk => hO.2.2.1.2.2 k (by omega)
  refine prQ hc hm hO (c_X9_fits (T := σ.1.2.2.1) (N := σ.2.2.1.2.2) (kn := kn) (by omega) (hc.nC hO) hc.2.2.2.1.2.1 hO.1.2.2.1 ⟨?_, by omega, fun k hk => hc.2.2.2.2.2.1.2.2 k (by omega)⟩ hNO) (fun μ' hm' => (c_X10_fits (T := σ.1.2.2.1) (N := σ.2.2.1.2.2) (kn := kn) (by omega) (hm'.nM hO) hm'.2.1.2.1 hO.1.2.2.1 ⟨?_, by omega, fun k hk => hm'.2.2.2.1.2.2 k (by omega)⟩ hNO).mI (fun v μ'' hq => ⟨by rw [wt_eq hc hm']; exact hq.1, hq.2⟩))
  · rw [hc.2.2.2.2.2.1.1, hc.2.2.2.2.2.1.2.1]
    exact hk2
  · rw [hm'.2.2.2.1.1, hm'.2.2.2.1.2.1]
    exact hk2
theorem pr_chance (h : invS μ) : prI l D yX9_chance cX9_chance 11 yX10_chance cX10_chance 9 .int [.int x1, .int x2, .int x3, .int x4] μ := by
  obtain ⟨t, σ, hc, hm, hO⟩ := h
  refine prQ (V := chanceF (eA σ) σ.1.2.2.2.2.2.2.2.1 σ.2.1.2.2.1 σ.2.1.1 x1 x2 x3 x4) hc hm hO ((c_X9_chance (by omega) (hc.nC hO)).mI (fun v μ' hq => ⟨?_, hq.2.1.w, hq.2.2⟩)) (fun μ' hm' => (c_X10_chance (by omega) (hm'.nM hO) ?_).mI (fun v μ'' hq => ⟨?_, hq.2.v⟩))
  · rw [← hc.2.2.2.1.2.2.2.2.2.1]
    exact hq.1
  · rw [hm'.2.1.2.2.2.2.2.1]
    exact hO.1.2.2.2.2.2.1.1
  · rw [← hm'.2.1.2.2.2.2.2.1]
    exact hq.1
theorem pr_text (h : invS μ) : prI l D yX9_text cX9_text 4 yX10_text cX10_text 3 .int [.int x1] μ := by
  obtain ⟨t, σ, hc, hm, hO⟩ := h
  refine ⟨txV σ x1, (c_X9_text (by omega) hc hO).mI (fun v μ1 hq => ⟨hq.1, ?_⟩)⟩
  obtain ⟨-, hkp, t', Gf, hc'⟩ := hq
  exact (c_X10_text (by omega) word_ok (hm.kp hkp) hO).mI (fun v' μ2 hq2 => ⟨hq2.1, t', txS σ x1 Gf, hc'.kp hq2.2.1, (hq2.2.2 Gf).1, (hq2.2.2 Gf).2⟩)
end PR
