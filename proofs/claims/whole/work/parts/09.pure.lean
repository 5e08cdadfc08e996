/-! SMALL METHODS THAT ONLY READ (or write one place): their contracts, used at every call -/
def bI (c : Prop) [Decidable c] : Int32 := if c then 1 else 0
def iw (x lo hi : Int32) : Int32 := if x < lo then 0 else if hi < x then 0 else 1
def fkn (a b : Int32) : Int32 := if a = -1 then b else a
def isn (x n : Int32) : Int32 := if x < 0 then 0 else if n ≤ x then 0 else 1
def jI (x : Int32) : Int64 := if x = 0 then 0 else 1
def ivl (x : Int32) : Int32 := if x = 34 then 1 else iw x 14 20
def strn (x : Int32) : Int32 := if x = 11 then 1 else if x = 12 then 2 else if x = 13 then 3 else if x = 27 then 5 else if x = 28 then 5 else if x = 29 then 6 else if x = 30 then 6 else if x = 31 then 0 else 4
theorem iw_01 (x lo hi : Int32) : iw x lo hi = 0 ∨ iw x lo hi = 1 := by
  unfold iw
  split
  · exact Or.inl rfl
  · split
    · exact Or.inl rfl
    · exact Or.inr rfl
theorem bI_01 (c : Prop) [Decidable c] : bI c = 0 ∨ bI c = 1 := by
  unfold bI
  split
  · exact Or.inr rfl
  · exact Or.inl rfl

def pt_X9_isWithin_0 (l : Launch) (D : gD) (d : Nat) (q : Int32 → gMem → Prop) (Γ : gC) (x0 : Int32) (x1 : Int32) (x2 : Int32) (μ : gMem) : Prop := G l D RX9 cX9_isWithin 3 (some .boolean) d (pI q) Γ 0 [(0, .int x0), (1, .int x1), (2, .int x2)] [] μ
set_option maxRecDepth 20000 in
set_option maxHeartbeats 4000000 in
theorem bl_X9_isWithin_0 {l : Launch} {D : gD} {d : Nat} {q : Int32 → gMem → Prop} {Γ : gC} {x0 : Int32} {x1 : Int32} {x2 : Int32} {μ : gMem}  (h : ((x0 < x1) → q (0 : Int32) μ) ∧ ((¬ x0 < x1) → ((x2 < x0) → q (0 : Int32) μ) ∧ ((¬ x2 < x0) → q (1 : Int32) μ))) : pt_X9_isWithin_0 l D d q Γ x0 x1 x2 μ := by
  unfold pt_X9_isWithin_0
  refine g_iload_n dX9_isWithin_0 rfl ?_
  refine g_iload_n dX9_isWithin_1 rfl ?_
  refine g_icmp_lt (tgt := 14) dX9_isWithin_2 (by decide) (fun c_1 => ?_) (fun c_1 => ?_)
  · have h := h.1 c_1
    refine g_iconst (0 : Int32) dX9_isWithin_14 rfl ?_
    exact g_iret dX9_isWithin_15 rfl rfl ⟨_, rfl, h⟩
  · have h := h.2 c_1
    refine g_iload_n dX9_isWithin_5 rfl ?_
    refine g_iload_n dX9_isWithin_6 rfl ?_
    refine g_icmp_gt (tgt := 14) dX9_isWithin_7 (by decide) (fun c_2 => ?_) (fun c_2 => ?_)
    · have h := h.1 c_2
      refine g_iconst (0 : Int32) dX9_isWithin_14 rfl ?_
      exact g_iret dX9_isWithin_15 rfl rfl ⟨_, rfl, h⟩
    · have h := h.2 c_2
      refine g_iconst (1 : Int32) dX9_isWithin_10 rfl ?_
      refine g_goto (tgt := 15) dX9_isWithin_11 (by decide) ?_
      exact g_iret dX9_isWithin_15 rfl rfl ⟨_, rfl, h⟩
theorem en_X9_isWithin {l : Launch} {D : gD} {d : Nat} {q : Int32 → gMem → Prop} {x0 : Int32} {x1 : Int32} {x2 : Int32} {μ : gMem} (h : ∀ Γ : gC, pt_X9_isWithin_0 l D d q Γ x0 x1 x2 μ) : Ctr l D d yX9_isWithin cX9_isWithin 3 (some .boolean) [.int x0, .int x1, .int x2] μ (pI q) :=
  Ctr_of rfl (by decide) (Nat.le_of_ble_eq_true rfl) (fun Γ => g_sub [0, 1, 2] rfl (h Γ))
section PU
variable {l : Launch} {D : gD} {d : Nat} {μ : gMem}
theorem c_X9_isWithin {x0 x1 x2 : Int32} (hd : 0 ≤ d) : Ctr l D d yX9_isWithin cX9_isWithin 3 (some .boolean) [.int x0, .int x1, .int x2] μ (pI (fun v μ' => v = iw x0 x1 x2 ∧ μ' = μ)) :=
  en_X9_isWithin (fun Γ => bl_X9_isWithin_0 ⟨fun h => ⟨by simp [iw, h], rfl⟩, fun h => ⟨fun h2 => ⟨by simp [iw, h, h2], rfl⟩, fun h2 => ⟨by simp [iw, h, h2], rfl⟩⟩⟩)
end PU
def pt_X6_isLetter_0 (l : Launch) (D : gD) (d : Nat) (q : Int32 → gMem → Prop) (Γ : gC) (x0 : Int32) (μ : gMem) : Prop := G l D RX6 cX6_isLetter 1 (some .boolean) d (pI q) Γ 0 [(0, .int x0)] [] μ
set_option maxRecDepth 20000 in
set_option maxHeartbeats 4000000 in
theorem bl_X6_isLetter_0 {l : Launch} {D : gD} {d : Nat} {q : Int32 → gMem → Prop} {Γ : gC} {x0 : Int32} {μ : gMem}  (h : ((x0 < (97 : Int32)) → q (0 : Int32) μ) ∧ ((¬ x0 < (97 : Int32)) → (((122 : Int32) < x0) → q (0 : Int32) μ) ∧ ((¬ (122 : Int32) < x0) → q (1 : Int32) μ))) : pt_X6_isLetter_0 l D d q Γ x0 μ := by
  unfold pt_X6_isLetter_0
  refine g_iload_n dX6_isLetter_0 rfl ?_
  refine g_bipush (97 : Int32) dX6_isLetter_1 rfl ?_
  refine g_icmp_lt (tgt := 16) dX6_isLetter_3 (by decide) (fun c_1 => ?_) (fun c_1 => ?_)
  · have h := h.1 c_1
    refine g_iconst (0 : Int32) dX6_isLetter_16 rfl ?_
    exact g_iret dX6_isLetter_17 rfl rfl ⟨_, rfl, h⟩
  · have h := h.2 c_1
    refine g_iload_n dX6_isLetter_6 rfl ?_
    refine g_bipush (122 : Int32) dX6_isLetter_7 rfl ?_
    refine g_icmp_gt (tgt := 16) dX6_isLetter_9 (by decide) (fun c_2 => ?_) (fun c_2 => ?_)
    · have h := h.1 c_2
      refine g_iconst (0 : Int32) dX6_isLetter_16 rfl ?_
      exact g_iret dX6_isLetter_17 rfl rfl ⟨_, rfl, h⟩
    · have h := h.2 c_2
      refine g_iconst (1 : Int32) dX6_isLetter_12 rfl ?_
      refine g_goto (tgt := 17) dX6_isLetter_13 (by decide) ?_
      exact g_iret dX6_isLetter_17 rfl rfl ⟨_, rfl, h⟩
theorem en_X6_isLetter {l : Launch} {D : gD} {d : Nat} {q : Int32 → gMem → Prop} {x0 : Int32} {μ : gMem} (h : ∀ Γ : gC, pt_X6_isLetter_0 l D d q Γ x0 μ) : Ctr l D d yX6_isLetter cX6_isLetter 1 (some .boolean) [.int x0] μ (pI q) :=
  Ctr_of rfl (by decide) (Nat.le_of_ble_eq_true rfl) (fun Γ => g_sub [0] rfl (h Γ))
section PU
variable {l : Launch} {D : gD} {d : Nat} {μ : gMem}
theorem c_X6_isLetter {x0 : Int32} (hd : 0 ≤ d) : Ctr l D d yX6_isLetter cX6_isLetter 1 (some .boolean) [.int x0] μ (pI (fun v μ' => v = iw x0 (97 : Int32) (122 : Int32) ∧ μ' = μ)) :=
  en_X6_isLetter (fun Γ => bl_X6_isLetter_0 ⟨fun h => ⟨by simp [iw, h], rfl⟩, fun h => ⟨fun h2 => ⟨by simp [iw, h, h2], rfl⟩, fun h2 => ⟨by simp [iw, h, h2], rfl⟩⟩⟩)
end PU
def pt_X6_isDigit_0 (l : Launch) (D : gD) (d : Nat) (q : Int32 → gMem → Prop) (Γ : gC) (x0 : Int32) (μ : gMem) : Prop := G l D RX6 cX6_isDigit 1 (some .boolean) d (pI q) Γ 0 [(0, .int x0)] [] μ
set_option maxRecDepth 20000 in
set_option maxHeartbeats 4000000 in
theorem bl_X6_isDigit_0 {l : Launch} {D : gD} {d : Nat} {q : Int32 → gMem → Prop} {Γ : gC} {x0 : Int32} {μ : gMem}  (h : ((x0 < (48 : Int32)) → q (0 : Int32) μ) ∧ ((¬ x0 < (48 : Int32)) → (((57 : Int32) < x0) → q (0 : Int32) μ) ∧ ((¬ (57 : Int32) < x0) → q (1 : Int32) μ))) : pt_X6_isDigit_0 l D d q Γ x0 μ := by
  unfold pt_X6_isDigit_0
  refine g_iload_n dX6_isDigit_0 rfl ?_
  refine g_bipush (48 : Int32) dX6_isDigit_1 rfl ?_
  refine g_icmp_lt (tgt := 16) dX6_isDigit_3 (by decide) (fun c_1 => ?_) (fun c_1 => ?_)
  · have h := h.1 c_1
    refine g_iconst (0 : Int32) dX6_isDigit_16 rfl ?_
    exact g_iret dX6_isDigit_17 rfl rfl ⟨_, rfl, h⟩
  · have h := h.2 c_1
    refine g_iload_n dX6_isDigit_6 rfl ?_
    refine g_bipush (57 : Int32) dX6_isDigit_7 rfl ?_
    refine g_icmp_gt (tgt := 16) dX6_isDigit_9 (by decide) (fun c_2 => ?_) (fun c_2 => ?_)
    · have h := h.1 c_2
      refine g_iconst (0 : Int32) dX6_isDigit_16 rfl ?_
      exact g_iret dX6_isDigit_17 rfl rfl ⟨_, rfl, h⟩
    · have h := h.2 c_2
      refine g_iconst (1 : Int32) dX6_isDigit_12 rfl ?_
      refine g_goto (tgt := 17) dX6_isDigit_13 (by decide) ?_
      exact g_iret dX6_isDigit_17 rfl rfl ⟨_, rfl, h⟩
theorem en_X6_isDigit {l : Launch} {D : gD} {d : Nat} {q : Int32 → gMem → Prop} {x0 : Int32} {μ : gMem} (h : ∀ Γ : gC, pt_X6_isDigit_0 l D d q Γ x0 μ) : Ctr l D d yX6_isDigit cX6_isDigit 1 (some .boolean) [.int x0] μ (pI q) :=
  Ctr_of rfl (by decide) (Nat.le_of_ble_eq_true rfl) (fun Γ => g_sub [0] rfl (h Γ))
section PU
variable {l : Launch} {D : gD} {d : Nat} {μ : gMem}
theorem c_X6_isDigit {x0 : Int32} (hd : 0 ≤ d) : Ctr l D d yX6_isDigit cX6_isDigit 1 (some .boolean) [.int x0] μ (pI (fun v μ' => v = iw x0 (48 : Int32) (57 : Int32) ∧ μ' = μ)) :=
  en_X6_isDigit (fun Γ => bl_X6_isDigit_0 ⟨fun h => ⟨by simp [iw, h], rfl⟩, fun h => ⟨fun h2 => ⟨by simp [iw, h, h2], rfl⟩, fun h2 => ⟨by simp [iw, h, h2], rfl⟩⟩⟩)
end PU
def pt_X10_isSmall_0 (l : Launch) (D : gD) (d : Nat) (q : Int32 → gMem → Prop) (Γ : gC) (x0 : Int32) (μ : gMem) : Prop := G l D RX10 cX10_isSmall 1 (some .boolean) d (pI q) Γ 0 [(0, .int x0)] [] μ
set_option maxRecDepth 20000 in
set_option maxHeartbeats 4000000 in
theorem bl_X10_isSmall_0 {l : Launch} {D : gD} {d : Nat} {q : Int32 → gMem → Prop} {Γ : gC} {x0 : Int32} {μ : gMem}  (h : ((x0 < (97 : Int32)) → q (0 : Int32) μ) ∧ ((¬ x0 < (97 : Int32)) → (((122 : Int32) < x0) → q (0 : Int32) μ) ∧ ((¬ (122 : Int32) < x0) → q (1 : Int32) μ))) : pt_X10_isSmall_0 l D d q Γ x0 μ := by
  unfold pt_X10_isSmall_0
  refine g_iload_n dX10_isSmall_0 rfl ?_
  refine g_bipush (97 : Int32) dX10_isSmall_1 rfl ?_
  refine g_icmp_lt (tgt := 16) dX10_isSmall_3 (by decide) (fun c_1 => ?_) (fun c_1 => ?_)
  · have h := h.1 c_1
    refine g_iconst (0 : Int32) dX10_isSmall_16 rfl ?_
    exact g_iret dX10_isSmall_17 rfl rfl ⟨_, rfl, h⟩
  · have h := h.2 c_1
    refine g_iload_n dX10_isSmall_6 rfl ?_
    refine g_bipush (122 : Int32) dX10_isSmall_7 rfl ?_
    refine g_icmp_gt (tgt := 16) dX10_isSmall_9 (by decide) (fun c_2 => ?_) (fun c_2 => ?_)
    · have h := h.1 c_2
      refine g_iconst (0 : Int32) dX10_isSmall_16 rfl ?_
      exact g_iret dX10_isSmall_17 rfl rfl ⟨_, rfl, h⟩
    · have h := h.2 c_2
      refine g_iconst (1 : Int32) dX10_isSmall_12 rfl ?_
      refine g_goto (tgt := 17) dX10_isSmall_13 (by decide) ?_
      exact g_iret dX10_isSmall_17 rfl rfl ⟨_, rfl, h⟩
theorem en_X10_isSmall {l : Launch} {D : gD} {d : Nat} {q : Int32 → gMem → Prop} {x0 : Int32} {μ : gMem} (h : ∀ Γ : gC, pt_X10_isSmall_0 l D d q Γ x0 μ) : Ctr l D d yX10_isSmall cX10_isSmall 1 (some .boolean) [.int x0] μ (pI q) :=
  Ctr_of rfl (by decide) (Nat.le_of_ble_eq_true rfl) (fun Γ => g_sub [0] rfl (h Γ))
section PU
variable {l : Launch} {D : gD} {d : Nat} {μ : gMem}
theorem c_X10_isSmall {x0 : Int32} (hd : 0 ≤ d) : Ctr l D d yX10_isSmall cX10_isSmall 1 (some .boolean) [.int x0] μ (pI (fun v μ' => v = iw x0 (97 : Int32) (122 : Int32) ∧ μ' = μ)) :=
  en_X10_isSmall (fun Γ => bl_X10_isSmall_0 ⟨fun h => ⟨by simp [iw, h], rfl⟩, fun h => ⟨fun h2 => ⟨by simp [iw, h, h2], rfl⟩, fun h2 => ⟨by simp [iw, h, h2], rfl⟩⟩⟩)
end PU
def pt_X10_isDigit_0 (l : Launch) (D : gD) (d : Nat) (q : Int32 → gMem → Prop) (Γ : gC) (x0 : Int32) (μ : gMem) : Prop := G l D RX10 cX10_isDigit 1 (some .boolean) d (pI q) Γ 0 [(0, .int x0)] [] μ
set_option maxRecDepth 20000 in
set_option maxHeartbeats 4000000 in
theorem bl_X10_isDigit_0 {l : Launch} {D : gD} {d : Nat} {q : Int32 → gMem → Prop} {Γ : gC} {x0 : Int32} {μ : gMem}  (h : ((x0 < (48 : Int32)) → q (0 : Int32) μ) ∧ ((¬ x0 < (48 : Int32)) → (((57 : Int32) < x0) → q (0 : Int32) μ) ∧ ((¬ (57 : Int32) < x0) → q (1 : Int32) μ))) : pt_X10_isDigit_0 l D d q Γ x0 μ := by
  unfold pt_X10_isDigit_0
  refine g_iload_n dX10_isDigit_0 rfl ?_
  refine g_bipush (48 : Int32) dX10_isDigit_1 rfl ?_
  refine g_icmp_lt (tgt := 16) dX10_isDigit_3 (by decide) (fun c_1 => ?_) (fun c_1 => ?_)
  · have h := h.1 c_1
    refine g_iconst (0 : Int32) dX10_isDigit_16 rfl ?_
    exact g_iret dX10_isDigit_17 rfl rfl ⟨_, rfl, h⟩
  · have h := h.2 c_1
    refine g_iload_n dX10_isDigit_6 rfl ?_
    refine g_bipush (57 : Int32) dX10_isDigit_7 rfl ?_
    refine g_icmp_gt (tgt := 16) dX10_isDigit_9 (by decide) (fun c_2 => ?_) (fun c_2 => ?_)
    · have h := h.1 c_2
      refine g_iconst (0 : Int32) dX10_isDigit_16 rfl ?_
      exact g_iret dX10_isDigit_17 rfl rfl ⟨_, rfl, h⟩
    · have h := h.2 c_2
      refine g_iconst (1 : Int32) dX10_isDigit_12 rfl ?_
      refine g_goto (tgt := 17) dX10_isDigit_13 (by decide) ?_
      exact g_iret dX10_isDigit_17 rfl rfl ⟨_, rfl, h⟩
theorem en_X10_isDigit {l : Launch} {D : gD} {d : Nat} {q : Int32 → gMem → Prop} {x0 : Int32} {μ : gMem} (h : ∀ Γ : gC, pt_X10_isDigit_0 l D d q Γ x0 μ) : Ctr l D d yX10_isDigit cX10_isDigit 1 (some .boolean) [.int x0] μ (pI q) :=
  Ctr_of rfl (by decide) (Nat.le_of_ble_eq_true rfl) (fun Γ => g_sub [0] rfl (h Γ))
section PU
variable {l : Launch} {D : gD} {d : Nat} {μ : gMem}
theorem c_X10_isDigit {x0 : Int32} (hd : 0 ≤ d) : Ctr l D d yX10_isDigit cX10_isDigit 1 (some .boolean) [.int x0] μ (pI (fun v μ' => v = iw x0 (48 : Int32) (57 : Int32) ∧ μ' = μ)) :=
  en_X10_isDigit (fun Γ => bl_X10_isDigit_0 ⟨fun h => ⟨by simp [iw, h], rfl⟩, fun h => ⟨fun h2 => ⟨by simp [iw, h, h2], rfl⟩, fun h2 => ⟨by simp [iw, h, h2], rfl⟩⟩⟩)
end PU
def pt_X9_isMan_0 (l : Launch) (D : gD) (d : Nat) (q : Int32 → gMem → Prop) (Γ : gC) (r0 : Nat) (x1 : Int32) (μ : gMem) : Prop := G l D RX9 cX9_isMan 2 (some .boolean) d (pI q) Γ 0 [(0, .ref (D.2.2 9 r0)), (1, .int x1)] [] μ
set_option maxRecDepth 20000 in
set_option maxHeartbeats 4000000 in
theorem bl_X9_isMan_0 {l : Launch} {D : gD} {d : Nat} {q : Int32 → gMem → Prop} {Γ : gC} {r0 : Nat} {x1 : Int32} {μ : gMem} (hr0 : r0 < 1) (h : (μ.2.2 0 < 2) ∧ ((0 < d) ∧ ((iw x1 (0 : Int32) ((μ.1 7 (μ.2.2 0) 0) - (1 : Int32)) = 0 ∨ iw x1 (0 : Int32) ((μ.1 7 (μ.2.2 0) 0) - (1 : Int32)) = 1) ∧ q (iw x1 (0 : Int32) ((μ.1 7 (μ.2.2 0) 0) - (1 : Int32))) μ))) : pt_X9_isMan_0 l D d q Γ r0 x1 μ := by
  unfold pt_X9_isMan_0
  refine g_iload_n dX9_isMan_0 rfl ?_
  refine g_iconst (0 : Int32) dX9_isMan_1 rfl ?_
  refine g_aload_n dX9_isMan_2 rfl ?_
  obtain ⟨hR_1, h⟩ := h
  refine g_gfR fl_9_28 rfl hr0 dX9_isMan_3 ?_
  refine g_gfI fi_9_108 hR_1 dX9_isMan_6 ?_
  refine g_iconst (1 : Int32) dX9_isMan_9 rfl ?_
  refine g_isub dX9_isMan_10 ?_
  obtain ⟨hd_2, h⟩ := h
  refine g_callS ca_X9_194 (c_X9_isWithin (d := 0) (Nat.le_refl _) ) hd_2 (by decide) rfl rfl (by first | exact Nat.le_of_ble_eq_true rfl | decide) dX9_isMan_11 (kI (fun v_3 μ_4 hq_5 => ?_))
  obtain ⟨ev_3, eμ_4⟩ := hq_5
  subst ev_3
  refine g_mem eμ_4 ?_
  obtain ⟨hz9, h⟩ := h
  exact g_iret dX9_isMan_14 rfl (nar_z hz9).1 ⟨_, rfl, h⟩
theorem en_X9_isMan {l : Launch} {D : gD} {d : Nat} {q : Int32 → gMem → Prop} {r0 : Nat} {x1 : Int32} {μ : gMem} (h : ∀ Γ : gC, pt_X9_isMan_0 l D d q Γ r0 x1 μ) : Ctr l D d yX9_isMan cX9_isMan 2 (some .boolean) [.ref (D.2.2 9 r0), .int x1] μ (pI q) :=
  Ctr_of rfl (by decide) (Nat.le_of_ble_eq_true rfl) (fun Γ => g_sub [0, 1] rfl (h Γ))
section PU
variable {l : Launch} {D : gD} {d : Nat} {μ : gMem}
theorem c_X9_isMan {r0 : Nat} {x1 : Int32} (hd : 1 ≤ d) (hr0 : r0 < 1) (hR : μ.2.2 0 < 2) : Ctr l D d yX9_isMan cX9_isMan 2 (some .boolean) [.ref (D.2.2 9 r0), .int x1] μ (pI (fun v μ' => v = iw x1 (0 : Int32) (μ.1 7 (μ.2.2 0) 0 - (1 : Int32)) ∧ μ' = μ)) :=
  en_X9_isMan (fun Γ => bl_X9_isMan_0 hr0 ⟨hR, hd, iw_01 _ _ _, rfl, rfl⟩)
end PU
def pt_X9_isDeed_0 (l : Launch) (D : gD) (d : Nat) (q : Int32 → gMem → Prop) (Γ : gC) (r0 : Nat) (x1 : Int32) (μ : gMem) : Prop := G l D RX9 cX9_isDeed 2 (some .boolean) d (pI q) Γ 0 [(0, .ref (D.2.2 9 r0)), (1, .int x1)] [] μ
set_option maxRecDepth 20000 in
set_option maxHeartbeats 4000000 in
theorem bl_X9_isDeed_0 {l : Launch} {D : gD} {d : Nat} {q : Int32 → gMem → Prop} {Γ : gC} {r0 : Nat} {x1 : Int32} {μ : gMem} (hr0 : r0 < 1) (h : (μ.2.2 0 < 2) ∧ ((0 < d) ∧ ((iw x1 (0 : Int32) ((μ.1 7 (μ.2.2 0) 5) - (1 : Int32)) = 0 ∨ iw x1 (0 : Int32) ((μ.1 7 (μ.2.2 0) 5) - (1 : Int32)) = 1) ∧ q (iw x1 (0 : Int32) ((μ.1 7 (μ.2.2 0) 5) - (1 : Int32))) μ))) : pt_X9_isDeed_0 l D d q Γ r0 x1 μ := by
  unfold pt_X9_isDeed_0
  refine g_iload_n dX9_isDeed_0 rfl ?_
  refine g_iconst (0 : Int32) dX9_isDeed_1 rfl ?_
  refine g_aload_n dX9_isDeed_2 rfl ?_
  obtain ⟨hR_1, h⟩ := h
  refine g_gfR fl_9_28 rfl hr0 dX9_isDeed_3 ?_
  refine g_gfI fi_9_118 hR_1 dX9_isDeed_6 ?_
  refine g_iconst (1 : Int32) dX9_isDeed_9 rfl ?_
  refine g_isub dX9_isDeed_10 ?_
  obtain ⟨hd_2, h⟩ := h
  refine g_callS ca_X9_194 (c_X9_isWithin (d := 0) (Nat.le_refl _) ) hd_2 (by decide) rfl rfl (by first | exact Nat.le_of_ble_eq_true rfl | decide) dX9_isDeed_11 (kI (fun v_3 μ_4 hq_5 => ?_))
  obtain ⟨ev_3, eμ_4⟩ := hq_5
  subst ev_3
  refine g_mem eμ_4 ?_
  obtain ⟨hz9, h⟩ := h
  exact g_iret dX9_isDeed_14 rfl (nar_z hz9).1 ⟨_, rfl, h⟩
theorem en_X9_isDeed {l : Launch} {D : gD} {d : Nat} {q : Int32 → gMem → Prop} {r0 : Nat} {x1 : Int32} {μ : gMem} (h : ∀ Γ : gC, pt_X9_isDeed_0 l D d q Γ r0 x1 μ) : Ctr l D d yX9_isDeed cX9_isDeed 2 (some .boolean) [.ref (D.2.2 9 r0), .int x1] μ (pI q) :=
  Ctr_of rfl (by decide) (Nat.le_of_ble_eq_true rfl) (fun Γ => g_sub [0, 1] rfl (h Γ))
section PU
variable {l : Launch} {D : gD} {d : Nat} {μ : gMem}
theorem c_X9_isDeed {r0 : Nat} {x1 : Int32} (hd : 1 ≤ d) (hr0 : r0 < 1) (hR : μ.2.2 0 < 2) : Ctr l D d yX9_isDeed cX9_isDeed 2 (some .boolean) [.ref (D.2.2 9 r0), .int x1] μ (pI (fun v μ' => v = iw x1 (0 : Int32) (μ.1 7 (μ.2.2 0) 5 - (1 : Int32)) ∧ μ' = μ)) :=
  en_X9_isDeed (fun Γ => bl_X9_isDeed_0 hr0 ⟨hR, hd, iw_01 _ _ _, rfl, rfl⟩)
end PU
def pt_X9_isWetAsItGoes_0 (l : Launch) (D : gD) (d : Nat) (q : Int32 → gMem → Prop) (Γ : gC) (r0 : Nat) (μ : gMem) : Prop := G l D RX9 cX9_isWetAsItGoes 1 (some .boolean) d (pI q) Γ 0 [(0, .ref (D.2.2 9 r0))] [] μ
set_option maxRecDepth 20000 in
set_option maxHeartbeats 4000000 in
theorem bl_X9_isWetAsItGoes_0 {l : Launch} {D : gD} {d : Nat} {q : Int32 → gMem → Prop} {Γ : gC} {r0 : Nat} {μ : gMem} (hr0 : r0 < 1) (h : (μ.2.2 0 < 2) ∧ ((((μ.1 7 (μ.2.2 0) 16) < (50 : Int32)) → q (0 : Int32) μ) ∧ ((¬ (μ.1 7 (μ.2.2 0) 16) < (50 : Int32)) → q (1 : Int32) μ))) : pt_X9_isWetAsItGoes_0 l D d q Γ r0 μ := by
  unfold pt_X9_isWetAsItGoes_0
  refine g_aload_n dX9_isWetAsItGoes_0 rfl ?_
  obtain ⟨hR_1, h⟩ := h
  refine g_gfR fl_9_28 rfl hr0 dX9_isWetAsItGoes_1 ?_
  refine g_gfI fi_9_233 hR_1 dX9_isWetAsItGoes_4 ?_
  refine g_bipush (50 : Int32) dX9_isWetAsItGoes_7 rfl ?_
  refine g_icmp_lt (tgt := 16) dX9_isWetAsItGoes_9 (by decide) (fun c_2 => ?_) (fun c_2 => ?_)
  · have h := h.1 c_2
    refine g_iconst (0 : Int32) dX9_isWetAsItGoes_16 rfl ?_
    exact g_iret dX9_isWetAsItGoes_17 rfl rfl ⟨_, rfl, h⟩
  · have h := h.2 c_2
    refine g_iconst (1 : Int32) dX9_isWetAsItGoes_12 rfl ?_
    refine g_goto (tgt := 17) dX9_isWetAsItGoes_13 (by decide) ?_
    exact g_iret dX9_isWetAsItGoes_17 rfl rfl ⟨_, rfl, h⟩
theorem en_X9_isWetAsItGoes {l : Launch} {D : gD} {d : Nat} {q : Int32 → gMem → Prop} {r0 : Nat} {μ : gMem} (h : ∀ Γ : gC, pt_X9_isWetAsItGoes_0 l D d q Γ r0 μ) : Ctr l D d yX9_isWetAsItGoes cX9_isWetAsItGoes 1 (some .boolean) [.ref (D.2.2 9 r0)] μ (pI q) :=
  Ctr_of rfl (by decide) (Nat.le_of_ble_eq_true rfl) (fun Γ => g_sub [0] rfl (h Γ))
section PU
variable {l : Launch} {D : gD} {d : Nat} {μ : gMem}
theorem c_X9_isWetAsItGoes {r0 : Nat} (hd : 0 ≤ d) (hr0 : r0 < 1) (hR : μ.2.2 0 < 2) : Ctr l D d yX9_isWetAsItGoes cX9_isWetAsItGoes 1 (some .boolean) [.ref (D.2.2 9 r0)] μ (pI (fun v μ' => v = bI (¬ μ.1 7 (μ.2.2 0) 16 < (50 : Int32)) ∧ μ' = μ)) :=
  en_X9_isWetAsItGoes (fun Γ => bl_X9_isWetAsItGoes_0 hr0 ⟨hR, fun h => ⟨by simp only [bI]; rw [if_neg (fun z => z h)], rfl⟩, fun h => ⟨by simp only [bI]; rw [if_pos h], rfl⟩⟩)
end PU
def pt_X3_firstKnown_0 (l : Launch) (D : gD) (d : Nat) (q : Int32 → gMem → Prop) (Γ : gC) (r0 : Nat) (μ : gMem) : Prop := G l D RX3 cX3_firstKnown 1 (some .int) d (pI q) Γ 0 [(0, .ref (D.2.2 3 r0))] [] μ
set_option maxRecDepth 20000 in
set_option maxHeartbeats 4000000 in
theorem bl_X3_firstKnown_0 {l : Launch} {D : gD} {d : Nat} {q : Int32 → gMem → Prop} {Γ : gC} {r0 : Nat} {μ : gMem} (hr0 : r0 < 1) (h : ((¬ (μ.1 3 r0 7) = (-1 : Int32)) → q (μ.1 3 r0 7) μ) ∧ (((μ.1 3 r0 7) = (-1 : Int32)) → q (μ.1 3 r0 6) μ)) : pt_X3_firstKnown_0 l D d q Γ r0 μ := by
  unfold pt_X3_firstKnown_0
  refine g_aload_n dX3_firstKnown_0 rfl ?_
  refine g_gfI fi_3_31 hr0 dX3_firstKnown_1 ?_
  refine g_iconst (-1 : Int32) dX3_firstKnown_4 rfl ?_
  refine g_icmp_ne (tgt := 15) dX3_firstKnown_5 (by decide) (fun c_1 => ?_) (fun c_1 => ?_)
  · have h := h.1 c_1
    refine g_aload_n dX3_firstKnown_15 rfl ?_
    refine g_gfI fi_3_31 hr0 dX3_firstKnown_16 ?_
    exact g_iret dX3_firstKnown_19 rfl rfl ⟨_, rfl, h⟩
  · have h := h.2 c_1
    refine g_aload_n dX3_firstKnown_8 rfl ?_
    refine g_gfI fi_3_35 hr0 dX3_firstKnown_9 ?_
    refine g_goto (tgt := 19) dX3_firstKnown_12 (by decide) ?_
    exact g_iret dX3_firstKnown_19 rfl rfl ⟨_, rfl, h⟩
theorem en_X3_firstKnown {l : Launch} {D : gD} {d : Nat} {q : Int32 → gMem → Prop} {r0 : Nat} {μ : gMem} (h : ∀ Γ : gC, pt_X3_firstKnown_0 l D d q Γ r0 μ) : Ctr l D d yX3_firstKnown cX3_firstKnown 1 (some .int) [.ref (D.2.2 3 r0)] μ (pI q) :=
  Ctr_of rfl (by decide) (Nat.le_of_ble_eq_true rfl) (fun Γ => g_sub [0] rfl (h Γ))
section PU
variable {l : Launch} {D : gD} {d : Nat} {μ : gMem}
theorem c_X3_firstKnown {r0 : Nat} (hd : 0 ≤ d) (hr0 : r0 < 1) : Ctr l D d yX3_firstKnown cX3_firstKnown 1 (some .int) [.ref (D.2.2 3 r0)] μ (pI (fun v μ' => v = fkn (μ.1 3 r0 7) (μ.1 3 r0 6) ∧ μ' = μ)) :=
  en_X3_firstKnown (fun Γ => bl_X3_firstKnown_0 hr0 ⟨fun h => ⟨by simp [fkn, h], rfl⟩, fun h => ⟨by simp [fkn, h], rfl⟩⟩)
end PU
def pt_X10_knownMany_0 (l : Launch) (D : gD) (d : Nat) (q : Int32 → gMem → Prop) (Γ : gC) (r0 : Nat) (μ : gMem) : Prop := G l D RX10 cX10_knownMany 1 (some .int) d (pI q) Γ 0 [(0, .ref (D.2.2 10 r0))] [] μ
set_option maxRecDepth 20000 in
set_option maxHeartbeats 4000000 in
theorem bl_X10_knownMany_0 {l : Launch} {D : gD} {d : Nat} {q : Int32 → gMem → Prop} {Γ : gC} {r0 : Nat} {μ : gMem} (hr0 : r0 < 1) (h : ((¬ (μ.1 10 r0 56) = (-1 : Int32)) → q (μ.1 10 r0 56) μ) ∧ (((μ.1 10 r0 56) = (-1 : Int32)) → q (μ.1 10 r0 55) μ)) : pt_X10_knownMany_0 l D d q Γ r0 μ := by
  unfold pt_X10_knownMany_0
  refine g_aload_n dX10_knownMany_0 rfl ?_
  refine g_gfI fi_10_120 hr0 dX10_knownMany_1 ?_
  refine g_iconst (-1 : Int32) dX10_knownMany_4 rfl ?_
  refine g_icmp_ne (tgt := 15) dX10_knownMany_5 (by decide) (fun c_1 => ?_) (fun c_1 => ?_)
  · have h := h.1 c_1
    refine g_aload_n dX10_knownMany_15 rfl ?_
    refine g_gfI fi_10_120 hr0 dX10_knownMany_16 ?_
    exact g_iret dX10_knownMany_19 rfl rfl ⟨_, rfl, h⟩
  · have h := h.2 c_1
    refine g_aload_n dX10_knownMany_8 rfl ?_
    refine g_gfI fi_10_298 hr0 dX10_knownMany_9 ?_
    refine g_goto (tgt := 19) dX10_knownMany_12 (by decide) ?_
    exact g_iret dX10_knownMany_19 rfl rfl ⟨_, rfl, h⟩
theorem en_X10_knownMany {l : Launch} {D : gD} {d : Nat} {q : Int32 → gMem → Prop} {r0 : Nat} {μ : gMem} (h : ∀ Γ : gC, pt_X10_knownMany_0 l D d q Γ r0 μ) : Ctr l D d yX10_knownMany cX10_knownMany 1 (some .int) [.ref (D.2.2 10 r0)] μ (pI q) :=
  Ctr_of rfl (by decide) (Nat.le_of_ble_eq_true rfl) (fun Γ => g_sub [0] rfl (h Γ))
section PU
variable {l : Launch} {D : gD} {d : Nat} {μ : gMem}
theorem c_X10_knownMany {r0 : Nat} (hd : 0 ≤ d) (hr0 : r0 < 1) : Ctr l D d yX10_knownMany cX10_knownMany 1 (some .int) [.ref (D.2.2 10 r0)] μ (pI (fun v μ' => v = fkn (μ.1 10 r0 56) (μ.1 10 r0 55) ∧ μ' = μ)) :=
  en_X10_knownMany (fun Γ => bl_X10_knownMany_0 hr0 ⟨fun h => ⟨by simp [fkn, h], rfl⟩, fun h => ⟨by simp [fkn, h], rfl⟩⟩)
end PU
def pt_X2_mindsOthers_0 (l : Launch) (D : gD) (d : Nat) (q : Int32 → gMem → Prop) (Γ : gC) (r0 : Nat) (μ : gMem) : Prop := G l D RX2 cX2_mindsOthers 1 (some .boolean) d (pI q) Γ 0 [(0, .ref (D.2.2 2 r0))] [] μ
set_option maxRecDepth 20000 in
set_option maxHeartbeats 4000000 in
theorem bl_X2_mindsOthers_0 {l : Launch} {D : gD} {d : Nat} {q : Int32 → gMem → Prop} {Γ : gC} {r0 : Nat} {μ : gMem} (hr0 : r0 < 2) (h : (μ.1 2 r0 8 = 0 ∨ μ.1 2 r0 8 = 1) ∧ q (μ.1 2 r0 8) μ) : pt_X2_mindsOthers_0 l D d q Γ r0 μ := by
  unfold pt_X2_mindsOthers_0
  refine g_aload_n dX2_mindsOthers_0 rfl ?_
  refine g_gfI fi_2_38 hr0 dX2_mindsOthers_1 ?_
  obtain ⟨hz9, h⟩ := h
  exact g_iret dX2_mindsOthers_4 rfl (nar_z hz9).1 ⟨_, rfl, h⟩
theorem en_X2_mindsOthers {l : Launch} {D : gD} {d : Nat} {q : Int32 → gMem → Prop} {r0 : Nat} {μ : gMem} (h : ∀ Γ : gC, pt_X2_mindsOthers_0 l D d q Γ r0 μ) : Ctr l D d yX2_mindsOthers cX2_mindsOthers 1 (some .boolean) [.ref (D.2.2 2 r0)] μ (pI q) :=
  Ctr_of rfl (by decide) (Nat.le_of_ble_eq_true rfl) (fun Γ => g_sub [0] rfl (h Γ))
section PU
variable {l : Launch} {D : gD} {d : Nat} {μ : gMem}
theorem c_X2_mindsOthers {r0 : Nat} (hd : 0 ≤ d) (hr0 : r0 < 2) (hs : μ.1 2 r0 8 = 0 ∨ μ.1 2 r0 8 = 1) : Ctr l D d yX2_mindsOthers cX2_mindsOthers 1 (some .boolean) [.ref (D.2.2 2 r0)] μ (pI (fun v μ' => v = μ.1 2 r0 8 ∧ μ' = μ)) :=
  en_X2_mindsOthers (fun Γ => bl_X2_mindsOthers_0 hr0 ⟨hs, rfl, rfl⟩)
end PU
def pt_X10_isMan_0 (l : Launch) (D : gD) (d : Nat) (q : Int32 → gMem → Prop) (Γ : gC) (r0 : Nat) (x1 : Int32) (μ : gMem) : Prop := G l D RX10 cX10_isMan 2 (some .boolean) d (pI q) Γ 0 [(0, .ref (D.2.2 10 r0)), (1, .int x1)] [] μ
set_option maxRecDepth 20000 in
set_option maxHeartbeats 4000000 in
theorem bl_X10_isMan_0 {l : Launch} {D : gD} {d : Nat} {q : Int32 → gMem → Prop} {Γ : gC} {r0 : Nat} {x1 : Int32} {μ : gMem} (hr0 : r0 < 1) (h : ((x1 < 0) → q (0 : Int32) μ) ∧ ((¬ x1 < 0) → (((μ.1 707 r0 0) ≤ x1) → q (0 : Int32) μ) ∧ ((¬ (μ.1 707 r0 0) ≤ x1) → q (1 : Int32) μ))) : pt_X10_isMan_0 l D d q Γ r0 x1 μ := by
  unfold pt_X10_isMan_0
  refine g_iload_n dX10_isMan_0 rfl ?_
  refine g_if_lt (tgt := 18) dX10_isMan_1 (by decide) (fun c_1 => ?_) (fun c_1 => ?_)
  · have h := h.1 c_1
    refine g_iconst (0 : Int32) dX10_isMan_18 rfl ?_
    exact g_iret dX10_isMan_19 rfl rfl ⟨_, rfl, h⟩
  · have h := h.2 c_1
    refine g_iload_n dX10_isMan_4 rfl ?_
    refine g_aload_n dX10_isMan_5 rfl ?_
    refine g_gfR fl_10_13 rfl hr0 dX10_isMan_6 ?_
    refine g_iconst (0 : Int32) dX10_isMan_9 rfl ?_
    refine g_iald 0 hr0 rfl (by decide) (by decide) rfl dX10_isMan_10 ?_
    refine g_icmp_ge (tgt := 18) dX10_isMan_11 (by decide) (fun c_3 => ?_) (fun c_3 => ?_)
    · have h := h.1 c_3
      refine g_iconst (0 : Int32) dX10_isMan_18 rfl ?_
      exact g_iret dX10_isMan_19 rfl rfl ⟨_, rfl, h⟩
    · have h := h.2 c_3
      refine g_iconst (1 : Int32) dX10_isMan_14 rfl ?_
      refine g_goto (tgt := 19) dX10_isMan_15 (by decide) ?_
      exact g_iret dX10_isMan_19 rfl rfl ⟨_, rfl, h⟩
theorem en_X10_isMan {l : Launch} {D : gD} {d : Nat} {q : Int32 → gMem → Prop} {r0 : Nat} {x1 : Int32} {μ : gMem} (h : ∀ Γ : gC, pt_X10_isMan_0 l D d q Γ r0 x1 μ) : Ctr l D d yX10_isMan cX10_isMan 2 (some .boolean) [.ref (D.2.2 10 r0), .int x1] μ (pI q) :=
  Ctr_of rfl (by decide) (Nat.le_of_ble_eq_true rfl) (fun Γ => g_sub [0, 1] rfl (h Γ))
section PU
variable {l : Launch} {D : gD} {d : Nat} {μ : gMem}
theorem c_X10_isMan {r0 : Nat} {x1 : Int32} (hd : 0 ≤ d) (hr0 : r0 < 1) : Ctr l D d yX10_isMan cX10_isMan 2 (some .boolean) [.ref (D.2.2 10 r0), .int x1] μ (pI (fun v μ' => v = isn x1 (μ.1 707 r0 0) ∧ μ' = μ)) :=
  en_X10_isMan (fun Γ => bl_X10_isMan_0 hr0 ⟨fun h => ⟨by simp [isn, h], rfl⟩, fun h => ⟨fun h2 => ⟨by simp [isn, h, h2], rfl⟩, fun h2 => ⟨by simp [isn, h, h2], rfl⟩⟩⟩)
end PU
def pt_X10_isDeed_0 (l : Launch) (D : gD) (d : Nat) (q : Int32 → gMem → Prop) (Γ : gC) (r0 : Nat) (x1 : Int32) (μ : gMem) : Prop := G l D RX10 cX10_isDeed 2 (some .boolean) d (pI q) Γ 0 [(0, .ref (D.2.2 10 r0)), (1, .int x1)] [] μ
set_option maxRecDepth 20000 in
set_option maxHeartbeats 4000000 in
theorem bl_X10_isDeed_0 {l : Launch} {D : gD} {d : Nat} {q : Int32 → gMem → Prop} {Γ : gC} {r0 : Nat} {x1 : Int32} {μ : gMem} (hr0 : r0 < 1) (h : ((x1 < 0) → q (0 : Int32) μ) ∧ ((¬ x1 < 0) → (((μ.1 707 r0 1) ≤ x1) → q (0 : Int32) μ) ∧ ((¬ (μ.1 707 r0 1) ≤ x1) → q (1 : Int32) μ))) : pt_X10_isDeed_0 l D d q Γ r0 x1 μ := by
  unfold pt_X10_isDeed_0
  refine g_iload_n dX10_isDeed_0 rfl ?_
  refine g_if_lt (tgt := 18) dX10_isDeed_1 (by decide) (fun c_1 => ?_) (fun c_1 => ?_)
  · have h := h.1 c_1
    refine g_iconst (0 : Int32) dX10_isDeed_18 rfl ?_
    exact g_iret dX10_isDeed_19 rfl rfl ⟨_, rfl, h⟩
  · have h := h.2 c_1
    refine g_iload_n dX10_isDeed_4 rfl ?_
    refine g_aload_n dX10_isDeed_5 rfl ?_
    refine g_gfR fl_10_13 rfl hr0 dX10_isDeed_6 ?_
    refine g_iconst (1 : Int32) dX10_isDeed_9 rfl ?_
    refine g_iald 1 hr0 rfl (by decide) (by decide) rfl dX10_isDeed_10 ?_
    refine g_icmp_ge (tgt := 18) dX10_isDeed_11 (by decide) (fun c_3 => ?_) (fun c_3 => ?_)
    · have h := h.1 c_3
      refine g_iconst (0 : Int32) dX10_isDeed_18 rfl ?_
      exact g_iret dX10_isDeed_19 rfl rfl ⟨_, rfl, h⟩
    · have h := h.2 c_3
      refine g_iconst (1 : Int32) dX10_isDeed_14 rfl ?_
      refine g_goto (tgt := 19) dX10_isDeed_15 (by decide) ?_
      exact g_iret dX10_isDeed_19 rfl rfl ⟨_, rfl, h⟩
theorem en_X10_isDeed {l : Launch} {D : gD} {d : Nat} {q : Int32 → gMem → Prop} {r0 : Nat} {x1 : Int32} {μ : gMem} (h : ∀ Γ : gC, pt_X10_isDeed_0 l D d q Γ r0 x1 μ) : Ctr l D d yX10_isDeed cX10_isDeed 2 (some .boolean) [.ref (D.2.2 10 r0), .int x1] μ (pI q) :=
  Ctr_of rfl (by decide) (Nat.le_of_ble_eq_true rfl) (fun Γ => g_sub [0, 1] rfl (h Γ))
section PU
variable {l : Launch} {D : gD} {d : Nat} {μ : gMem}
theorem c_X10_isDeed {r0 : Nat} {x1 : Int32} (hd : 0 ≤ d) (hr0 : r0 < 1) : Ctr l D d yX10_isDeed cX10_isDeed 2 (some .boolean) [.ref (D.2.2 10 r0), .int x1] μ (pI (fun v μ' => v = isn x1 (μ.1 707 r0 1) ∧ μ' = μ)) :=
  en_X10_isDeed (fun Γ => bl_X10_isDeed_0 hr0 ⟨fun h => ⟨by simp [isn, h], rfl⟩, fun h => ⟨fun h2 => ⟨by simp [isn, h, h2], rfl⟩, fun h2 => ⟨by simp [isn, h, h2], rfl⟩⟩⟩)
end PU
def pt_X10_isThere_0 (l : Launch) (D : gD) (d : Nat) (q : Int32 → gMem → Prop) (Γ : gC) (r0 : Nat) (x1 : Int32) (μ : gMem) : Prop := G l D RX10 cX10_isThere 2 (some .boolean) d (pI q) Γ 0 [(0, .ref (D.2.2 10 r0)), (1, .int x1)] [] μ
def pt_X10_isThere_1 (l : Launch) (D : gD) (d : Nat) (q : Int32 → gMem → Prop) (Γ : gC)  (μ : gMem) : Prop := G l D RX10 cX10_isThere 2 (some .boolean) d (pI q) Γ 16 [] [] μ
set_option maxRecDepth 20000 in
set_option maxHeartbeats 4000000 in
theorem bl_X10_isThere_0 {l : Launch} {D : gD} {d : Nat} {q : Int32 → gMem → Prop} {Γ : gC} {r0 : Nat} {x1 : Int32} {μ : gMem} (hr0 : r0 < 1) (h : ((¬ (μ.1 10 r0 51) = (2 : Int32)) → pt_X10_isThere_1 l D d q Γ  μ) ∧ (((μ.1 10 r0 51) = (2 : Int32)) → ((x1 = (μ.1 10 r0 52)) → q (0 : Int32) μ) ∧ ((¬ x1 = (μ.1 10 r0 52)) → pt_X10_isThere_1 l D d q Γ  μ))) : pt_X10_isThere_0 l D d q Γ r0 x1 μ := by
  unfold pt_X10_isThere_0
  refine g_aload_n dX10_isThere_0 rfl ?_
  refine g_gfI fi_10_331 hr0 dX10_isThere_1 ?_
  refine g_iconst (2 : Int32) dX10_isThere_4 rfl ?_
  refine g_icmp_ne (tgt := 16) dX10_isThere_5 (by decide) (fun c_1 => ?_) (fun c_1 => ?_)
  · have h := h.1 c_1
    exact g_sub [] rfl h
  · have h := h.2 c_1
    refine g_iload_n dX10_isThere_8 rfl ?_
    refine g_aload_n dX10_isThere_9 rfl ?_
    refine g_gfI fi_10_111 hr0 dX10_isThere_10 ?_
    refine g_icmp_eq (tgt := 20) dX10_isThere_13 (by decide) (fun c_2 => ?_) (fun c_2 => ?_)
    · have h := h.1 c_2
      refine g_iconst (0 : Int32) dX10_isThere_20 rfl ?_
      exact g_iret dX10_isThere_21 rfl rfl ⟨_, rfl, h⟩
    · have h := h.2 c_2
      exact g_sub [] rfl h
set_option maxRecDepth 20000 in
set_option maxHeartbeats 4000000 in
theorem bl_X10_isThere_1 {l : Launch} {D : gD} {d : Nat} {q : Int32 → gMem → Prop} {Γ : gC}  {μ : gMem}  (h : q (1 : Int32) μ) : pt_X10_isThere_1 l D d q Γ  μ := by
  unfold pt_X10_isThere_1
  refine g_iconst (1 : Int32) dX10_isThere_16 rfl ?_
  refine g_goto (tgt := 21) dX10_isThere_17 (by decide) ?_
  exact g_iret dX10_isThere_21 rfl rfl ⟨_, rfl, h⟩
theorem en_X10_isThere {l : Launch} {D : gD} {d : Nat} {q : Int32 → gMem → Prop} {r0 : Nat} {x1 : Int32} {μ : gMem} (h : ∀ Γ : gC, pt_X10_isThere_0 l D d q Γ r0 x1 μ) : Ctr l D d yX10_isThere cX10_isThere 2 (some .boolean) [.ref (D.2.2 10 r0), .int x1] μ (pI q) :=
  Ctr_of rfl (by decide) (Nat.le_of_ble_eq_true rfl) (fun Γ => g_sub [0, 1] rfl (h Γ))
section PU
variable {l : Launch} {D : gD} {d : Nat} {μ : gMem}
theorem c_X10_isThere {r0 : Nat} {x1 : Int32} (hd : 0 ≤ d) (hr0 : r0 < 1) : Ctr l D d yX10_isThere cX10_isThere 2 (some .boolean) [.ref (D.2.2 10 r0), .int x1] μ (pI (fun v μ' => v = bI (¬ (μ.1 10 r0 51 = (2 : Int32) ∧ x1 = μ.1 10 r0 52)) ∧ μ' = μ)) :=
  en_X10_isThere (fun Γ => bl_X10_isThere_0 hr0 ⟨fun h => bl_X10_isThere_1 ⟨by simp [bI, h], rfl⟩, fun h => ⟨fun h2 => ⟨by simp [bI, h, h2], rfl⟩, fun h2 => bl_X10_isThere_1 ⟨by simp [bI, h2], rfl⟩⟩⟩)
end PU
def pt_X10_is_0 (l : Launch) (D : gD) (d : Nat) (q : Int64 → gMem → Prop) (Γ : gC) (x0 : Int32) (μ : gMem) : Prop := G l D RX10 cX10_is 1 (some .long) d (pJ q) Γ 0 [(0, .int x0)] [] μ
set_option maxRecDepth 20000 in
set_option maxHeartbeats 4000000 in
theorem bl_X10_is_0 {l : Launch} {D : gD} {d : Nat} {q : Int64 → gMem → Prop} {Γ : gC} {x0 : Int32} {μ : gMem}  (h : ((x0 = 0) → q (0 : Int64) μ) ∧ ((¬ x0 = 0) → q (1 : Int64) μ)) : pt_X10_is_0 l D d q Γ x0 μ := by
  unfold pt_X10_is_0
  refine g_iload_n dX10_is_0 rfl ?_
  refine g_if_eq (tgt := 8) dX10_is_1 (by decide) (fun c_1 => ?_) (fun c_1 => ?_)
  · have h := h.1 c_1
    refine g_lconst (0 : Int64) dX10_is_8 rfl ?_
    exact g_lret dX10_is_9 rfl ⟨_, rfl, h⟩
  · have h := h.2 c_1
    refine g_lconst (1 : Int64) dX10_is_4 rfl ?_
    refine g_goto (tgt := 9) dX10_is_5 (by decide) ?_
    exact g_lret dX10_is_9 rfl ⟨_, rfl, h⟩
theorem en_X10_is {l : Launch} {D : gD} {d : Nat} {q : Int64 → gMem → Prop} {x0 : Int32} {μ : gMem} (h : ∀ Γ : gC, pt_X10_is_0 l D d q Γ x0 μ) : Ctr l D d yX10_is cX10_is 1 (some .long) [.int x0] μ (pJ q) :=
  Ctr_of rfl (by decide) (Nat.le_of_ble_eq_true rfl) (fun Γ => g_sub [0] rfl (h Γ))
section PU
variable {l : Launch} {D : gD} {d : Nat} {μ : gMem}
theorem c_X10_is {x0 : Int32} (hd : 0 ≤ d) : Ctr l D d yX10_is cX10_is 1 (some .long) [.int x0] μ (pJ (fun v μ' => v = jI x0 ∧ μ' = μ)) :=
  en_X10_is (fun Γ => bl_X10_is_0 ⟨fun h => ⟨by simp [jI, h], rfl⟩, fun h => ⟨by simp [jI, h], rfl⟩⟩)
end PU
def pt_X1_isComparison_0 (l : Launch) (D : gD) (d : Nat) (q : Int32 → gMem → Prop) (Γ : gC) (x0 : Int32) (μ : gMem) : Prop := G l D RX1 cX1_isComparison 1 (some .boolean) d (pI q) Γ 0 [(0, .int x0)] [] μ
set_option maxRecDepth 20000 in
set_option maxHeartbeats 4000000 in
theorem bl_X1_isComparison_0 {l : Launch} {D : gD} {d : Nat} {q : Int32 → gMem → Prop} {Γ : gC} {x0 : Int32} {μ : gMem}  (h : (0 < d) ∧ ((iw x0 (21 : Int32) (26 : Int32) = 0 ∨ iw x0 (21 : Int32) (26 : Int32) = 1) ∧ q (iw x0 (21 : Int32) (26 : Int32)) μ)) : pt_X1_isComparison_0 l D d q Γ x0 μ := by
  unfold pt_X1_isComparison_0
  refine g_iload_n dX1_isComparison_0 rfl ?_
  refine g_bipush (21 : Int32) dX1_isComparison_1 rfl ?_
  refine g_bipush (26 : Int32) dX1_isComparison_3 rfl ?_
  obtain ⟨hd_1, h⟩ := h
  refine g_callN ca_X1_89 (c_X9_isWithin (d := 0) (Nat.le_refl _) ) hd_1 (by decide) rfl rfl (by first | exact Nat.le_of_ble_eq_true rfl | decide) dX1_isComparison_5 (kI (fun v_2 μ_3 hq_4 => ?_))
  obtain ⟨ev_2, eμ_3⟩ := hq_4
  subst ev_2
  refine g_mem eμ_3 ?_
  obtain ⟨hz9, h⟩ := h
  exact g_iret dX1_isComparison_8 rfl (nar_z hz9).1 ⟨_, rfl, h⟩
theorem en_X1_isComparison {l : Launch} {D : gD} {d : Nat} {q : Int32 → gMem → Prop} {x0 : Int32} {μ : gMem} (h : ∀ Γ : gC, pt_X1_isComparison_0 l D d q Γ x0 μ) : Ctr l D d yX1_isComparison cX1_isComparison 1 (some .boolean) [.int x0] μ (pI q) :=
  Ctr_of rfl (by decide) (Nat.le_of_ble_eq_true rfl) (fun Γ => g_sub [0] rfl (h Γ))
section PU
variable {l : Launch} {D : gD} {d : Nat} {μ : gMem}
theorem c_X1_isComparison {x0 : Int32} (hd : 1 ≤ d) : Ctr l D d yX1_isComparison cX1_isComparison 1 (some .boolean) [.int x0] μ (pI (fun v μ' => v = iw x0 (21 : Int32) (26 : Int32) ∧ μ' = μ)) :=
  en_X1_isComparison (fun Γ => bl_X1_isComparison_0 ⟨hd, iw_01 _ _ _, rfl, rfl⟩)
end PU
def pt_X1_isValue_0 (l : Launch) (D : gD) (d : Nat) (q : Int32 → gMem → Prop) (Γ : gC) (x0 : Int32) (μ : gMem) : Prop := G l D RX1 cX1_isValue 1 (some .boolean) d (pI q) Γ 0 [(0, .int x0)] [] μ
def pt_X1_isValue_1 (l : Launch) (D : gD) (d : Nat) (q : Int32 → gMem → Prop) (Γ : gC)  (μ : gMem) : Prop := G l D RX1 cX1_isValue 1 (some .boolean) d (pI q) Γ 17 [] [] μ
set_option maxRecDepth 20000 in
set_option maxHeartbeats 4000000 in
theorem bl_X1_isValue_0 {l : Launch} {D : gD} {d : Nat} {q : Int32 → gMem → Prop} {Γ : gC} {x0 : Int32} {μ : gMem}  (h : ((x0 = (34 : Int32)) → pt_X1_isValue_1 l D d q Γ  μ) ∧ ((¬ x0 = (34 : Int32)) → (0 < d) ∧ ((((iw x0 (14 : Int32) (20 : Int32)) = 0) → q (0 : Int32) μ) ∧ ((¬ (iw x0 (14 : Int32) (20 : Int32)) = 0) → pt_X1_isValue_1 l D d q Γ  μ)))) : pt_X1_isValue_0 l D d q Γ x0 μ := by
  unfold pt_X1_isValue_0
  refine g_iload_n dX1_isValue_0 rfl ?_
  refine g_bipush (34 : Int32) dX1_isValue_1 rfl ?_
  refine g_icmp_eq (tgt := 17) dX1_isValue_3 (by decide) (fun c_1 => ?_) (fun c_1 => ?_)
  · have h := h.1 c_1
    exact g_sub [] rfl h
  · have h := h.2 c_1
    refine g_iload_n dX1_isValue_6 rfl ?_
    refine g_bipush (14 : Int32) dX1_isValue_7 rfl ?_
    refine g_bipush (20 : Int32) dX1_isValue_9 rfl ?_
    obtain ⟨hd_2, h⟩ := h
    refine g_callN ca_X1_89 (c_X9_isWithin (d := 0) (Nat.le_refl _) ) hd_2 (by decide) rfl rfl (by first | exact Nat.le_of_ble_eq_true rfl | decide) dX1_isValue_11 (kI (fun v_3 μ_4 hq_5 => ?_))
    obtain ⟨ev_3, eμ_4⟩ := hq_5
    subst ev_3
    refine g_mem eμ_4 ?_
    refine g_if_eq (tgt := 21) dX1_isValue_14 (by decide) (fun c_6 => ?_) (fun c_6 => ?_)
    · have h := h.1 c_6
      refine g_iconst (0 : Int32) dX1_isValue_21 rfl ?_
      exact g_iret dX1_isValue_22 rfl rfl ⟨_, rfl, h⟩
    · have h := h.2 c_6
      exact g_sub [] rfl h
set_option maxRecDepth 20000 in
set_option maxHeartbeats 4000000 in
theorem bl_X1_isValue_1 {l : Launch} {D : gD} {d : Nat} {q : Int32 → gMem → Prop} {Γ : gC}  {μ : gMem}  (h : q (1 : Int32) μ) : pt_X1_isValue_1 l D d q Γ  μ := by
  unfold pt_X1_isValue_1
  refine g_iconst (1 : Int32) dX1_isValue_17 rfl ?_
  refine g_goto (tgt := 22) dX1_isValue_18 (by decide) ?_
  exact g_iret dX1_isValue_22 rfl rfl ⟨_, rfl, h⟩
theorem en_X1_isValue {l : Launch} {D : gD} {d : Nat} {q : Int32 → gMem → Prop} {x0 : Int32} {μ : gMem} (h : ∀ Γ : gC, pt_X1_isValue_0 l D d q Γ x0 μ) : Ctr l D d yX1_isValue cX1_isValue 1 (some .boolean) [.int x0] μ (pI q) :=
  Ctr_of rfl (by decide) (Nat.le_of_ble_eq_true rfl) (fun Γ => g_sub [0] rfl (h Γ))
section PU
variable {l : Launch} {D : gD} {d : Nat} {μ : gMem}
theorem c_X1_isValue {x0 : Int32} (hd : 1 ≤ d) : Ctr l D d yX1_isValue cX1_isValue 1 (some .boolean) [.int x0] μ (pI (fun v μ' => v = ivl x0 ∧ μ' = μ)) :=
  en_X1_isValue (fun Γ => bl_X1_isValue_0 ⟨fun h => bl_X1_isValue_1 ⟨by simp [ivl, h], rfl⟩, fun h => ⟨hd, fun h2 => ⟨by simp only [ivl]; rw [if_neg h]; exact h2.symm, rfl⟩, fun h2 => bl_X1_isValue_1 ⟨by
    simp only [ivl]
    rw [if_neg h]
    rcases iw_01 x0 14 20 with e | e
    · exact absurd e h2
    · exact e.symm, rfl⟩⟩⟩)
end PU
def pt_X1_strength_0 (l : Launch) (D : gD) (d : Nat) (q : Int32 → gMem → Prop) (Γ : gC) (x0 : Int32) (μ : gMem) : Prop := G l D RX1 cX1_strength 1 (some .int) d (pI q) Γ 0 [(0, .int x0)] [] μ
set_option maxRecDepth 20000 in
set_option maxHeartbeats 4000000 in
theorem bl_X1_strength_0 {l : Launch} {D : gD} {d : Nat} {q : Int32 → gMem → Prop} {Γ : gC} {x0 : Int32} {μ : gMem}  (h : (x0 = (11 : Int32) → q (1 : Int32) μ) ∧ (x0 = (12 : Int32) → q (2 : Int32) μ) ∧ (x0 = (13 : Int32) → q (3 : Int32) μ) ∧ (x0 = (27 : Int32) → q (5 : Int32) μ) ∧ (x0 = (28 : Int32) → q (5 : Int32) μ) ∧ (x0 = (29 : Int32) → q (6 : Int32) μ) ∧ (x0 = (30 : Int32) → q (6 : Int32) μ) ∧ (x0 = (31 : Int32) → q (0 : Int32) μ) ∧ ((¬ x0 = (11 : Int32) ∧ ¬ x0 = (12 : Int32) ∧ ¬ x0 = (13 : Int32) ∧ ¬ x0 = (27 : Int32) ∧ ¬ x0 = (28 : Int32) ∧ ¬ x0 = (29 : Int32) ∧ ¬ x0 = (30 : Int32) ∧ ¬ x0 = (31 : Int32)) → q (4 : Int32) μ)) : pt_X1_strength_0 l D d q Γ x0 μ := by
  unfold pt_X1_strength_0
  refine g_iload_n dX1_strength_0 rfl ?_
  by_cases c_1_11 : x0 = (11 : Int32)
  · refine g_tableIn (off := 101) (tgt := 102) dX1_strength_1 (by rw [c_1_11]; decide) (by rw [c_1_11]; decide) (by rw [c_1_11]; rfl) (by decide) ?_
    have h := h.1 c_1_11
    refine g_iconst (1 : Int32) dX1_strength_102 rfl ?_
    exact g_iret dX1_strength_103 rfl rfl ⟨_, rfl, h⟩
  by_cases c_1_12 : x0 = (12 : Int32)
  · refine g_tableIn (off := 103) (tgt := 104) dX1_strength_1 (by rw [c_1_12]; decide) (by rw [c_1_12]; decide) (by rw [c_1_12]; rfl) (by decide) ?_
    have h := h.2.1 c_1_12
    refine g_iconst (2 : Int32) dX1_strength_104 rfl ?_
    exact g_iret dX1_strength_105 rfl rfl ⟨_, rfl, h⟩
  by_cases c_1_13 : x0 = (13 : Int32)
  · refine g_tableIn (off := 105) (tgt := 106) dX1_strength_1 (by rw [c_1_13]; decide) (by rw [c_1_13]; decide) (by rw [c_1_13]; rfl) (by decide) ?_
    have h := h.2.2.1 c_1_13
    refine g_iconst (3 : Int32) dX1_strength_106 rfl ?_
    exact g_iret dX1_strength_107 rfl rfl ⟨_, rfl, h⟩
  by_cases c_1_14 : x0 = (14 : Int32)
  · refine g_tableIn (off := 112) (tgt := 113) dX1_strength_1 (by rw [c_1_14]; decide) (by rw [c_1_14]; decide) (by rw [c_1_14]; rfl) (by decide) ?_
    have h := h.2.2.2.2.2.2.2.2 (⟨by rw [c_1_14]; decide, by rw [c_1_14]; decide, by rw [c_1_14]; decide, by rw [c_1_14]; decide, by rw [c_1_14]; decide, by rw [c_1_14]; decide, by rw [c_1_14]; decide, by rw [c_1_14]; decide⟩)
    refine g_iconst (4 : Int32) dX1_strength_113 rfl ?_
    exact g_iret dX1_strength_114 rfl rfl ⟨_, rfl, h⟩
  by_cases c_1_15 : x0 = (15 : Int32)
  · refine g_tableIn (off := 112) (tgt := 113) dX1_strength_1 (by rw [c_1_15]; decide) (by rw [c_1_15]; decide) (by rw [c_1_15]; rfl) (by decide) ?_
    have h := h.2.2.2.2.2.2.2.2 (⟨by rw [c_1_15]; decide, by rw [c_1_15]; decide, by rw [c_1_15]; decide, by rw [c_1_15]; decide, by rw [c_1_15]; decide, by rw [c_1_15]; decide, by rw [c_1_15]; decide, by rw [c_1_15]; decide⟩)
    refine g_iconst (4 : Int32) dX1_strength_113 rfl ?_
    exact g_iret dX1_strength_114 rfl rfl ⟨_, rfl, h⟩
  by_cases c_1_16 : x0 = (16 : Int32)
  · refine g_tableIn (off := 112) (tgt := 113) dX1_strength_1 (by rw [c_1_16]; decide) (by rw [c_1_16]; decide) (by rw [c_1_16]; rfl) (by decide) ?_
    have h := h.2.2.2.2.2.2.2.2 (⟨by rw [c_1_16]; decide, by rw [c_1_16]; decide, by rw [c_1_16]; decide, by rw [c_1_16]; decide, by rw [c_1_16]; decide, by rw [c_1_16]; decide, by rw [c_1_16]; decide, by rw [c_1_16]; decide⟩)
    refine g_iconst (4 : Int32) dX1_strength_113 rfl ?_
    exact g_iret dX1_strength_114 rfl rfl ⟨_, rfl, h⟩
  by_cases c_1_17 : x0 = (17 : Int32)
  · refine g_tableIn (off := 112) (tgt := 113) dX1_strength_1 (by rw [c_1_17]; decide) (by rw [c_1_17]; decide) (by rw [c_1_17]; rfl) (by decide) ?_
    have h := h.2.2.2.2.2.2.2.2 (⟨by rw [c_1_17]; decide, by rw [c_1_17]; decide, by rw [c_1_17]; decide, by rw [c_1_17]; decide, by rw [c_1_17]; decide, by rw [c_1_17]; decide, by rw [c_1_17]; decide, by rw [c_1_17]; decide⟩)
    refine g_iconst (4 : Int32) dX1_strength_113 rfl ?_
    exact g_iret dX1_strength_114 rfl rfl ⟨_, rfl, h⟩
  by_cases c_1_18 : x0 = (18 : Int32)
  · refine g_tableIn (off := 112) (tgt := 113) dX1_strength_1 (by rw [c_1_18]; decide) (by rw [c_1_18]; decide) (by rw [c_1_18]; rfl) (by decide) ?_
    have h := h.2.2.2.2.2.2.2.2 (⟨by rw [c_1_18]; decide, by rw [c_1_18]; decide, by rw [c_1_18]; decide, by rw [c_1_18]; decide, by rw [c_1_18]; decide, by rw [c_1_18]; decide, by rw [c_1_18]; decide, by rw [c_1_18]; decide⟩)
    refine g_iconst (4 : Int32) dX1_strength_113 rfl ?_
    exact g_iret dX1_strength_114 rfl rfl ⟨_, rfl, h⟩
  by_cases c_1_19 : x0 = (19 : Int32)
  · refine g_tableIn (off := 112) (tgt := 113) dX1_strength_1 (by rw [c_1_19]; decide) (by rw [c_1_19]; decide) (by rw [c_1_19]; rfl) (by decide) ?_
    have h := h.2.2.2.2.2.2.2.2 (⟨by rw [c_1_19]; decide, by rw [c_1_19]; decide, by rw [c_1_19]; decide, by rw [c_1_19]; decide, by rw [c_1_19]; decide, by rw [c_1_19]; decide, by rw [c_1_19]; decide, by rw [c_1_19]; decide⟩)
    refine g_iconst (4 : Int32) dX1_strength_113 rfl ?_
    exact g_iret dX1_strength_114 rfl rfl ⟨_, rfl, h⟩
  by_cases c_1_20 : x0 = (20 : Int32)
  · refine g_tableIn (off := 112) (tgt := 113) dX1_strength_1 (by rw [c_1_20]; decide) (by rw [c_1_20]; decide) (by rw [c_1_20]; rfl) (by decide) ?_
    have h := h.2.2.2.2.2.2.2.2 (⟨by rw [c_1_20]; decide, by rw [c_1_20]; decide, by rw [c_1_20]; decide, by rw [c_1_20]; decide, by rw [c_1_20]; decide, by rw [c_1_20]; decide, by rw [c_1_20]; decide, by rw [c_1_20]; decide⟩)
    refine g_iconst (4 : Int32) dX1_strength_113 rfl ?_
    exact g_iret dX1_strength_114 rfl rfl ⟨_, rfl, h⟩
  by_cases c_1_21 : x0 = (21 : Int32)
  · refine g_tableIn (off := 112) (tgt := 113) dX1_strength_1 (by rw [c_1_21]; decide) (by rw [c_1_21]; decide) (by rw [c_1_21]; rfl) (by decide) ?_
    have h := h.2.2.2.2.2.2.2.2 (⟨by rw [c_1_21]; decide, by rw [c_1_21]; decide, by rw [c_1_21]; decide, by rw [c_1_21]; decide, by rw [c_1_21]; decide, by rw [c_1_21]; decide, by rw [c_1_21]; decide, by rw [c_1_21]; decide⟩)
    refine g_iconst (4 : Int32) dX1_strength_113 rfl ?_
    exact g_iret dX1_strength_114 rfl rfl ⟨_, rfl, h⟩
  by_cases c_1_22 : x0 = (22 : Int32)
  · refine g_tableIn (off := 112) (tgt := 113) dX1_strength_1 (by rw [c_1_22]; decide) (by rw [c_1_22]; decide) (by rw [c_1_22]; rfl) (by decide) ?_
    have h := h.2.2.2.2.2.2.2.2 (⟨by rw [c_1_22]; decide, by rw [c_1_22]; decide, by rw [c_1_22]; decide, by rw [c_1_22]; decide, by rw [c_1_22]; decide, by rw [c_1_22]; decide, by rw [c_1_22]; decide, by rw [c_1_22]; decide⟩)
    refine g_iconst (4 : Int32) dX1_strength_113 rfl ?_
    exact g_iret dX1_strength_114 rfl rfl ⟨_, rfl, h⟩
  by_cases c_1_23 : x0 = (23 : Int32)
  · refine g_tableIn (off := 112) (tgt := 113) dX1_strength_1 (by rw [c_1_23]; decide) (by rw [c_1_23]; decide) (by rw [c_1_23]; rfl) (by decide) ?_
    have h := h.2.2.2.2.2.2.2.2 (⟨by rw [c_1_23]; decide, by rw [c_1_23]; decide, by rw [c_1_23]; decide, by rw [c_1_23]; decide, by rw [c_1_23]; decide, by rw [c_1_23]; decide, by rw [c_1_23]; decide, by rw [c_1_23]; decide⟩)
    refine g_iconst (4 : Int32) dX1_strength_113 rfl ?_
    exact g_iret dX1_strength_114 rfl rfl ⟨_, rfl, h⟩
  by_cases c_1_24 : x0 = (24 : Int32)
  · refine g_tableIn (off := 112) (tgt := 113) dX1_strength_1 (by rw [c_1_24]; decide) (by rw [c_1_24]; decide) (by rw [c_1_24]; rfl) (by decide) ?_
    have h := h.2.2.2.2.2.2.2.2 (⟨by rw [c_1_24]; decide, by rw [c_1_24]; decide, by rw [c_1_24]; decide, by rw [c_1_24]; decide, by rw [c_1_24]; decide, by rw [c_1_24]; decide, by rw [c_1_24]; decide, by rw [c_1_24]; decide⟩)
    refine g_iconst (4 : Int32) dX1_strength_113 rfl ?_
    exact g_iret dX1_strength_114 rfl rfl ⟨_, rfl, h⟩
  by_cases c_1_25 : x0 = (25 : Int32)
  · refine g_tableIn (off := 112) (tgt := 113) dX1_strength_1 (by rw [c_1_25]; decide) (by rw [c_1_25]; decide) (by rw [c_1_25]; rfl) (by decide) ?_
    have h := h.2.2.2.2.2.2.2.2 (⟨by rw [c_1_25]; decide, by rw [c_1_25]; decide, by rw [c_1_25]; decide, by rw [c_1_25]; decide, by rw [c_1_25]; decide, by rw [c_1_25]; decide, by rw [c_1_25]; decide, by rw [c_1_25]; decide⟩)
    refine g_iconst (4 : Int32) dX1_strength_113 rfl ?_
    exact g_iret dX1_strength_114 rfl rfl ⟨_, rfl, h⟩
  by_cases c_1_26 : x0 = (26 : Int32)
  · refine g_tableIn (off := 112) (tgt := 113) dX1_strength_1 (by rw [c_1_26]; decide) (by rw [c_1_26]; decide) (by rw [c_1_26]; rfl) (by decide) ?_
    have h := h.2.2.2.2.2.2.2.2 (⟨by rw [c_1_26]; decide, by rw [c_1_26]; decide, by rw [c_1_26]; decide, by rw [c_1_26]; decide, by rw [c_1_26]; decide, by rw [c_1_26]; decide, by rw [c_1_26]; decide, by rw [c_1_26]; decide⟩)
    refine g_iconst (4 : Int32) dX1_strength_113 rfl ?_
    exact g_iret dX1_strength_114 rfl rfl ⟨_, rfl, h⟩
  by_cases c_1_27 : x0 = (27 : Int32)
  · refine g_tableIn (off := 107) (tgt := 108) dX1_strength_1 (by rw [c_1_27]; decide) (by rw [c_1_27]; decide) (by rw [c_1_27]; rfl) (by decide) ?_
    have h := h.2.2.2.1 c_1_27
    refine g_iconst (5 : Int32) dX1_strength_108 rfl ?_
    exact g_iret dX1_strength_109 rfl rfl ⟨_, rfl, h⟩
  by_cases c_1_28 : x0 = (28 : Int32)
  · refine g_tableIn (off := 107) (tgt := 108) dX1_strength_1 (by rw [c_1_28]; decide) (by rw [c_1_28]; decide) (by rw [c_1_28]; rfl) (by decide) ?_
    have h := h.2.2.2.2.1 c_1_28
    refine g_iconst (5 : Int32) dX1_strength_108 rfl ?_
    exact g_iret dX1_strength_109 rfl rfl ⟨_, rfl, h⟩
  by_cases c_1_29 : x0 = (29 : Int32)
  · refine g_tableIn (off := 109) (tgt := 110) dX1_strength_1 (by rw [c_1_29]; decide) (by rw [c_1_29]; decide) (by rw [c_1_29]; rfl) (by decide) ?_
    have h := h.2.2.2.2.2.1 c_1_29
    refine g_bipush (6 : Int32) dX1_strength_110 rfl ?_
    exact g_iret dX1_strength_112 rfl rfl ⟨_, rfl, h⟩
  by_cases c_1_30 : x0 = (30 : Int32)
  · refine g_tableIn (off := 109) (tgt := 110) dX1_strength_1 (by rw [c_1_30]; decide) (by rw [c_1_30]; decide) (by rw [c_1_30]; rfl) (by decide) ?_
    have h := h.2.2.2.2.2.2.1 c_1_30
    refine g_bipush (6 : Int32) dX1_strength_110 rfl ?_
    exact g_iret dX1_strength_112 rfl rfl ⟨_, rfl, h⟩
  by_cases c_1_31 : x0 = (31 : Int32)
  · refine g_tableIn (off := 99) (tgt := 100) dX1_strength_1 (by rw [c_1_31]; decide) (by rw [c_1_31]; decide) (by rw [c_1_31]; rfl) (by decide) ?_
    have h := h.2.2.2.2.2.2.2.1 c_1_31
    refine g_iconst (0 : Int32) dX1_strength_100 rfl ?_
    exact g_iret dX1_strength_101 rfl rfl ⟨_, rfl, h⟩
  have c_1_o : (x0).toInt < 11 ∨ 31 < (x0).toInt := by
    have := lv_neT c_1_11 (a := 11) rfl
    have := lv_neT c_1_12 (a := 12) rfl
    have := lv_neT c_1_13 (a := 13) rfl
    have := lv_neT c_1_14 (a := 14) rfl
    have := lv_neT c_1_15 (a := 15) rfl
    have := lv_neT c_1_16 (a := 16) rfl
    have := lv_neT c_1_17 (a := 17) rfl
    have := lv_neT c_1_18 (a := 18) rfl
    have := lv_neT c_1_19 (a := 19) rfl
    have := lv_neT c_1_20 (a := 20) rfl
    have := lv_neT c_1_21 (a := 21) rfl
    have := lv_neT c_1_22 (a := 22) rfl
    have := lv_neT c_1_23 (a := 23) rfl
    have := lv_neT c_1_24 (a := 24) rfl
    have := lv_neT c_1_25 (a := 25) rfl
    have := lv_neT c_1_26 (a := 26) rfl
    have := lv_neT c_1_27 (a := 27) rfl
    have := lv_neT c_1_28 (a := 28) rfl
    have := lv_neT c_1_29 (a := 29) rfl
    have := lv_neT c_1_30 (a := 30) rfl
    have := lv_neT c_1_31 (a := 31) rfl
    omega
  refine g_tableOut (tgt := 113) dX1_strength_1 c_1_o (by decide) ?_
  have h := h.2.2.2.2.2.2.2.2 ⟨c_1_11, c_1_12, c_1_13, c_1_27, c_1_28, c_1_29, c_1_30, c_1_31⟩
  refine g_iconst (4 : Int32) dX1_strength_113 rfl ?_
  exact g_iret dX1_strength_114 rfl rfl ⟨_, rfl, h⟩
theorem en_X1_strength {l : Launch} {D : gD} {d : Nat} {q : Int32 → gMem → Prop} {x0 : Int32} {μ : gMem} (h : ∀ Γ : gC, pt_X1_strength_0 l D d q Γ x0 μ) : Ctr l D d yX1_strength cX1_strength 1 (some .int) [.int x0] μ (pI q) :=
  Ctr_of rfl (by decide) (Nat.le_of_ble_eq_true rfl) (fun Γ => g_sub [0] rfl (h Γ))
section PU
variable {l : Launch} {D : gD} {d : Nat} {μ : gMem}
theorem c_X1_strength {x0 : Int32} (hd : 0 ≤ d) : Ctr l D d yX1_strength cX1_strength 1 (some .int) [.int x0] μ (pI (fun v μ' => v = strn x0 ∧ μ' = μ)) :=
  en_X1_strength (fun Γ => bl_X1_strength_0 ⟨fun h => ⟨by subst h; rfl, rfl⟩, fun h => ⟨by subst h; rfl, rfl⟩, fun h => ⟨by subst h; rfl, rfl⟩, fun h => ⟨by subst h; rfl, rfl⟩, fun h => ⟨by subst h; rfl, rfl⟩, fun h => ⟨by subst h; rfl, rfl⟩, fun h => ⟨by subst h; rfl, rfl⟩, fun h => ⟨by subst h; rfl, rfl⟩, fun h => ⟨by
    obtain ⟨h1, h2, h3, h4, h5, h6, h7, h8⟩ := h
    simp [strn, h1, h2, h3, h4, h5, h6, h7, h8], rfl⟩⟩)
end PU
def pt_X10_isWord_0 (l : Launch) (D : gD) (d : Nat) (q : Int32 → gMem → Prop) (Γ : gC) (r0 : Nat) (x1 : Int32) (μ : gMem) : Prop := G l D RX10 cX10_isWord 2 (some .boolean) d (pI q) Γ 0 [(0, .ref (D.2.2 10 r0)), (1, .int x1)] [] μ
set_option maxRecDepth 20000 in
set_option maxHeartbeats 4000000 in
theorem bl_X10_isWord_0 {l : Launch} {D : gD} {d : Nat} {q : Int32 → gMem → Prop} {Γ : gC} {r0 : Nat} {x1 : Int32} {μ : gMem} (hr0 : r0 < 1) (h : ((¬ (μ.1 10 r0 24) = 0) → q (0 : Int32) μ) ∧ (((μ.1 10 r0 24) = 0) → ((¬ (μ.1 10 r0 22) = 0) → q (0 : Int32) μ) ∧ (((μ.1 10 r0 22) = 0) → ((¬ (μ.1 10 r0 23) = x1) → q (0 : Int32) μ) ∧ (((μ.1 10 r0 23) = x1) → q (1 : Int32) μ)))) : pt_X10_isWord_0 l D d q Γ r0 x1 μ := by
  unfold pt_X10_isWord_0
  refine g_aload_n dX10_isWord_0 rfl ?_
  refine g_gfI fi_10_199 hr0 dX10_isWord_1 ?_
  refine g_if_ne (tgt := 26) dX10_isWord_4 (by decide) (fun c_1 => ?_) (fun c_1 => ?_)
  · have h := h.1 c_1
    refine g_iconst (0 : Int32) dX10_isWord_26 rfl ?_
    exact g_iret dX10_isWord_27 rfl rfl ⟨_, rfl, h⟩
  · have h := h.2 c_1
    refine g_aload_n dX10_isWord_7 rfl ?_
    refine g_gfI fi_10_164 hr0 dX10_isWord_8 ?_
    refine g_if_ne (tgt := 26) dX10_isWord_11 (by decide) (fun c_2 => ?_) (fun c_2 => ?_)
    · have h := h.1 c_2
      refine g_iconst (0 : Int32) dX10_isWord_26 rfl ?_
      exact g_iret dX10_isWord_27 rfl rfl ⟨_, rfl, h⟩
    · have h := h.2 c_2
      refine g_aload_n dX10_isWord_14 rfl ?_
      refine g_gfI fi_10_174 hr0 dX10_isWord_15 ?_
      refine g_iload_n dX10_isWord_18 rfl ?_
      refine g_icmp_ne (tgt := 26) dX10_isWord_19 (by decide) (fun c_3 => ?_) (fun c_3 => ?_)
      · have h := h.1 c_3
        refine g_iconst (0 : Int32) dX10_isWord_26 rfl ?_
        exact g_iret dX10_isWord_27 rfl rfl ⟨_, rfl, h⟩
      · have h := h.2 c_3
        refine g_iconst (1 : Int32) dX10_isWord_22 rfl ?_
        refine g_goto (tgt := 27) dX10_isWord_23 (by decide) ?_
        exact g_iret dX10_isWord_27 rfl rfl ⟨_, rfl, h⟩
theorem en_X10_isWord {l : Launch} {D : gD} {d : Nat} {q : Int32 → gMem → Prop} {r0 : Nat} {x1 : Int32} {μ : gMem} (h : ∀ Γ : gC, pt_X10_isWord_0 l D d q Γ r0 x1 μ) : Ctr l D d yX10_isWord cX10_isWord 2 (some .boolean) [.ref (D.2.2 10 r0), .int x1] μ (pI q) :=
  Ctr_of rfl (by decide) (Nat.le_of_ble_eq_true rfl) (fun Γ => g_sub [0, 1] rfl (h Γ))
section PU
variable {l : Launch} {D : gD} {d : Nat} {μ : gMem}
theorem c_X10_isWord {r0 : Nat} {x1 : Int32} (hd : 0 ≤ d) (hr0 : r0 < 1) : Ctr l D d yX10_isWord cX10_isWord 2 (some .boolean) [.ref (D.2.2 10 r0), .int x1] μ (pI (fun v μ' => v = bI (μ.1 10 r0 24 = 0 ∧ μ.1 10 r0 22 = 0 ∧ μ.1 10 r0 23 = x1) ∧ μ' = μ)) :=
  en_X10_isWord (fun Γ => bl_X10_isWord_0 hr0 ⟨fun h => ⟨by simp [bI, h], rfl⟩, fun h => ⟨fun h2 => ⟨by simp [bI, h2], rfl⟩, fun h2 => ⟨fun h3 => ⟨by simp [bI, h3], rfl⟩, fun h3 => ⟨by simp [bI, h, h2, h3], rfl⟩⟩⟩⟩)
end PU
def pt_X10_isSign_0 (l : Launch) (D : gD) (d : Nat) (q : Int32 → gMem → Prop) (Γ : gC) (r0 : Nat) (x1 : Int32) (μ : gMem) : Prop := G l D RX10 cX10_isSign 2 (some .boolean) d (pI q) Γ 0 [(0, .ref (D.2.2 10 r0)), (1, .int x1)] [] μ
set_option maxRecDepth 20000 in
set_option maxHeartbeats 4000000 in
theorem bl_X10_isSign_0 {l : Launch} {D : gD} {d : Nat} {q : Int32 → gMem → Prop} {Γ : gC} {r0 : Nat} {x1 : Int32} {μ : gMem} (hr0 : r0 < 1) (h : ((¬ (μ.1 10 r0 24) = 0) → q (0 : Int32) μ) ∧ (((μ.1 10 r0 24) = 0) → ((¬ (μ.1 10 r0 22) = (3 : Int32)) → q (0 : Int32) μ) ∧ (((μ.1 10 r0 22) = (3 : Int32)) → ((¬ (μ.1 10 r0 23) = x1) → q (0 : Int32) μ) ∧ (((μ.1 10 r0 23) = x1) → q (1 : Int32) μ)))) : pt_X10_isSign_0 l D d q Γ r0 x1 μ := by
  unfold pt_X10_isSign_0
  refine g_aload_n dX10_isSign_0 rfl ?_
  refine g_gfI fi_10_199 hr0 dX10_isSign_1 ?_
  refine g_if_ne (tgt := 27) dX10_isSign_4 (by decide) (fun c_1 => ?_) (fun c_1 => ?_)
  · have h := h.1 c_1
    refine g_iconst (0 : Int32) dX10_isSign_27 rfl ?_
    exact g_iret dX10_isSign_28 rfl rfl ⟨_, rfl, h⟩
  · have h := h.2 c_1
    refine g_aload_n dX10_isSign_7 rfl ?_
    refine g_gfI fi_10_164 hr0 dX10_isSign_8 ?_
    refine g_iconst (3 : Int32) dX10_isSign_11 rfl ?_
    refine g_icmp_ne (tgt := 27) dX10_isSign_12 (by decide) (fun c_2 => ?_) (fun c_2 => ?_)
    · have h := h.1 c_2
      refine g_iconst (0 : Int32) dX10_isSign_27 rfl ?_
      exact g_iret dX10_isSign_28 rfl rfl ⟨_, rfl, h⟩
    · have h := h.2 c_2
      refine g_aload_n dX10_isSign_15 rfl ?_
      refine g_gfI fi_10_174 hr0 dX10_isSign_16 ?_
      refine g_iload_n dX10_isSign_19 rfl ?_
      refine g_icmp_ne (tgt := 27) dX10_isSign_20 (by decide) (fun c_3 => ?_) (fun c_3 => ?_)
      · have h := h.1 c_3
        refine g_iconst (0 : Int32) dX10_isSign_27 rfl ?_
        exact g_iret dX10_isSign_28 rfl rfl ⟨_, rfl, h⟩
      · have h := h.2 c_3
        refine g_iconst (1 : Int32) dX10_isSign_23 rfl ?_
        refine g_goto (tgt := 28) dX10_isSign_24 (by decide) ?_
        exact g_iret dX10_isSign_28 rfl rfl ⟨_, rfl, h⟩
theorem en_X10_isSign {l : Launch} {D : gD} {d : Nat} {q : Int32 → gMem → Prop} {r0 : Nat} {x1 : Int32} {μ : gMem} (h : ∀ Γ : gC, pt_X10_isSign_0 l D d q Γ r0 x1 μ) : Ctr l D d yX10_isSign cX10_isSign 2 (some .boolean) [.ref (D.2.2 10 r0), .int x1] μ (pI q) :=
  Ctr_of rfl (by decide) (Nat.le_of_ble_eq_true rfl) (fun Γ => g_sub [0, 1] rfl (h Γ))
section PU
variable {l : Launch} {D : gD} {d : Nat} {μ : gMem}
theorem c_X10_isSign {r0 : Nat} {x1 : Int32} (hd : 0 ≤ d) (hr0 : r0 < 1) : Ctr l D d yX10_isSign cX10_isSign 2 (some .boolean) [.ref (D.2.2 10 r0), .int x1] μ (pI (fun v μ' => v = bI (μ.1 10 r0 24 = 0 ∧ μ.1 10 r0 22 = (3 : Int32) ∧ μ.1 10 r0 23 = x1) ∧ μ' = μ)) :=
  en_X10_isSign (fun Γ => bl_X10_isSign_0 hr0 ⟨fun h => ⟨by simp [bI, h], rfl⟩, fun h => ⟨fun h2 => ⟨by simp [bI, h2], rfl⟩, fun h2 => ⟨fun h3 => ⟨by simp [bI, h3], rfl⟩, fun h3 => ⟨by simp [bI, h, h2, h3], rfl⟩⟩⟩⟩)
end PU
def pt_X10_fresher_0 (l : Launch) (D : gD) (d : Nat) (q : Int32 → gMem → Prop) (Γ : gC) (r0 : Nat) (x1 : Int32) (μ : gMem) : Prop := G l D RX10 cX10_fresher 2 (some .int) d (pI q) Γ 0 [(0, .ref (D.2.2 10 r0)), (1, .int x1)] [] μ
set_option maxRecDepth 20000 in
set_option maxHeartbeats 4000000 in
theorem bl_X10_fresher_0 {l : Launch} {D : gD} {d : Nat} {q : Int32 → gMem → Prop} {Γ : gC} {r0 : Nat} {x1 : Int32} {μ : gMem} (hr0 : r0 < 1) (h : ∃ j_1 : Nat, j_1 < 20 ∧ (10 : Int32) + x1 = nI j_1 ∧ (q (μ.1 707 r0 j_1) μ)) : pt_X10_fresher_0 l D d q Γ r0 x1 μ := by
  unfold pt_X10_fresher_0
  refine g_aload_n dX10_fresher_0 rfl ?_
  refine g_gfR fl_10_13 rfl hr0 dX10_fresher_1 ?_
  refine g_bipush (10 : Int32) dX10_fresher_4 rfl ?_
  refine g_iload_n dX10_fresher_6 rfl ?_
  refine g_iadd dX10_fresher_7 ?_
  obtain ⟨j_1, hj_1, ej_1, h⟩ := h
  refine g_iald j_1 hr0 rfl hj_1 (by decide) ej_1 dX10_fresher_8 ?_
  exact g_iret dX10_fresher_9 rfl rfl ⟨_, rfl, h⟩
theorem en_X10_fresher {l : Launch} {D : gD} {d : Nat} {q : Int32 → gMem → Prop} {r0 : Nat} {x1 : Int32} {μ : gMem} (h : ∀ Γ : gC, pt_X10_fresher_0 l D d q Γ r0 x1 μ) : Ctr l D d yX10_fresher cX10_fresher 2 (some .int) [.ref (D.2.2 10 r0), .int x1] μ (pI q) :=
  Ctr_of rfl (by decide) (Nat.le_of_ble_eq_true rfl) (fun Γ => g_sub [0, 1] rfl (h Γ))
section PU
variable {l : Launch} {D : gD} {d : Nat} {μ : gMem}
theorem c_X10_fresher {r0 n : Nat} {x1 : Int32} (hd : 0 ≤ d) (hr0 : r0 < 1) (hn : n < 10) (hx : x1 = nI n) : Ctr l D d yX10_fresher cX10_fresher 2 (some .int) [.ref (D.2.2 10 r0), .int x1] μ (pI (fun v μ' => v = μ.1 707 r0 (10 + n) ∧ μ' = μ)) :=
  en_X10_fresher (fun Γ => bl_X10_fresher_0 hr0 ⟨10 + n, by omega, by rw [hx]; exact nI_add 10 n, rfl, rfl⟩)
end PU
def pt_X10_reads_0 (l : Launch) (D : gD) (d : Nat) (q : gMem → Prop) (Γ : gC) (r0 : Nat) (x1 : Int32) (x2 : Int32) (μ : gMem) : Prop := G l D RX10 cX10_reads 3 none d (pV q) Γ 0 [(0, .ref (D.2.2 10 r0)), (1, .int x1), (2, .int x2)] [] μ
set_option maxRecDepth 20000 in
set_option maxHeartbeats 4000000 in
theorem bl_X10_reads_0 {l : Launch} {D : gD} {d : Nat} {q : gMem → Prop} {Γ : gC} {r0 : Nat} {x1 : Int32} {x2 : Int32} {μ : gMem} (hr0 : r0 < 1) (h : ∃ j_1 : Nat, j_1 < 20 ∧ (10 : Int32) + x1 = nI j_1 ∧ (∀ μ_2 : gMem, μ_2 = gsI μ 707 r0 j_1 x2 → q μ_2)) : pt_X10_reads_0 l D d q Γ r0 x1 x2 μ := by
  unfold pt_X10_reads_0
  refine g_aload_n dX10_reads_0 rfl ?_
  refine g_gfR fl_10_13 rfl hr0 dX10_reads_1 ?_
  refine g_bipush (10 : Int32) dX10_reads_4 rfl ?_
  refine g_iload_n dX10_reads_6 rfl ?_
  refine g_iadd dX10_reads_7 ?_
  refine g_iload_n dX10_reads_8 rfl ?_
  obtain ⟨j_1, hj_1, ej_1, h⟩ := h
  refine g_iast j_1 hr0 rfl hj_1 (by decide) ej_1 dX10_reads_9 ?_
  obtain ⟨μ_2, eμ_2⟩ : ∃ z : gMem, z = gsI μ 707 r0 j_1 x2 := ⟨_, rfl⟩
  have h := h μ_2 eμ_2
  refine g_mem eμ_2.symm ?_
  exact g_vret dX10_reads_10 rfl ⟨rfl, h⟩
theorem en_X10_reads {l : Launch} {D : gD} {d : Nat} {q : gMem → Prop} {r0 : Nat} {x1 : Int32} {x2 : Int32} {μ : gMem} (h : ∀ Γ : gC, pt_X10_reads_0 l D d q Γ r0 x1 x2 μ) : Ctr l D d yX10_reads cX10_reads 3 none [.ref (D.2.2 10 r0), .int x1, .int x2] μ (pV q) :=
  Ctr_of rfl (by decide) (Nat.le_of_ble_eq_true rfl) (fun Γ => g_sub [0, 1, 2] rfl (h Γ))
section PU
variable {l : Launch} {D : gD} {d : Nat} {μ : gMem}
theorem c_X10_reads {r0 n : Nat} {x1 x2 : Int32} (hd : 0 ≤ d) (hr0 : r0 < 1) (hn : n < 10) (hx : x1 = nI n) : Ctr l D d yX10_reads cX10_reads 3 none [.ref (D.2.2 10 r0), .int x1, .int x2] μ (pV (fun μ' => μ' = gsI μ 707 r0 (10 + n) x2)) :=
  en_X10_reads (fun Γ => bl_X10_reads_0 hr0 ⟨10 + n, by omega, by rw [hx]; exact nI_add 10 n, fun μ2 e => e⟩)
end PU
