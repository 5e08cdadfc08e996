/-! LINES: names, of the reference -/
section LN
variable {l : Launch} {D : gD} {d : Nat} {μ : gMem} {lg : Nat → Int32} {tb : Nat → Nat} {L p : Nat} {k1 i1 Ln a m : Nat} {x2 x3 : Int32}
theorem n_fresh (hk1 : gsh k1 = (1, (gsh k1).2.1, 0)) (hi1 : i1 < gkn k1) (h : ¬ μ.1 10 0 24 = 0) : Ctr l D d yX10_fresh cX10_fresh 5 (some .int) [.ref (D.2.2 10 0), .ref (D.2.2 k1 i1), .int x2, .int x3] μ (pI (fun v μ' => v = 0 ∧ μ' = μ)) := en_X10_fresh (fun Γ => bl_X10_fresh_0 (by decide) hk1 hi1 ⟨fun z => absurd z h, fun _ => ⟨rfl, rfl⟩⟩)
theorem n_toldAhead (hk1 : gsh k1 = (1, (gsh k1).2.1, 0)) (hi1 : i1 < gkn k1) (h : ¬ μ.1 10 0 24 = 0) : Ctr l D d yX10_toldAhead cX10_toldAhead 4 (some .int) [.ref (D.2.2 10 0), .ref (D.2.2 k1 i1), .int x2, .int x3] μ (pI (fun v μ' => v = 0 ∧ μ' = μ)) := en_X10_toldAhead (fun Γ => bl_X10_toldAhead_0 (by decide) hk1 hi1 ⟨fun z => absurd z h, fun _ => ⟨rfl, rfl⟩⟩)
theorem nam_23 (hat : atM lg tb L p μ) (e35 : tkK lg tb L p = 35) : μ.1 10 0 23 = tkV lg tb L p := by
  rw [← nam_val e35]
  exact hat.2.2.2 (fun z => by have : tkK lg tb L p = 36 := z; rw [e35] at this; exact absurd this (by decide)) (fun z => by have : tkK lg tb L p = 37 := z; rw [e35] at this; exact absurd this (by decide))
theorem c_X10_fresh (hd : 3 ≤ d) (hWd : WordC l D lg) (h2 : x2 = nI a) (h3 : x3 = nI m) (hk1 : gsh k1 = (1, (gsh k1).2.1, 0)) (hi1 : i1 < gkn k1) (hL : (gsh k1).2.1 = Ln) (hL2 : Ln < 2 ^ 31) (hm : a + m ≤ Ln) (h : rlM lg tb L μ p) : Ctr l D d yX10_fresh cX10_fresh 5 (some .int) [.ref (D.2.2 10 0), .ref (D.2.2 k1 i1), .int x2, .int x3] μ (pI (fun v μ' => rwF μ μ' ∧ rsM lg tb L (nwR lg tb L (fun z => μ.1 k1 i1 (a + z)) m p) v μ')) := by
  have hat := h.2.2.2
  refine en_X10_fresh (fun Γ => bl_X10_fresh_0 (by decide) hk1 hi1 ⟨fun _ => ?_, fun z => absurd h.2.1 z⟩)
  rw [(isN2 hat).2.1]
  have bad : ∀ μ' k q, rwF μ μ' → flM μ' k q → nwR lg tb L (fun z => μ.1 k1 i1 (a + z)) m p = .inl (k, q) → pt_X10_fresh_1 l D d (fun v μ' => rwF μ μ' ∧ rsM lg tb L (nwR lg tb L (fun z => μ.1 k1 i1 (a + z)) m p) v μ') Γ 0 μ' := by
    intro μ' k q F fl e
    refine bl_X10_fresh_1 (by decide) ⟨fun z => absurd (fl.2.1.symm.trans z) fl.1, fun _ => ⟨F, ?_⟩⟩
    rw [e]
    exact fl
  refine ⟨fun e35 => ⟨0, _, by omega, c_X10_found h2 h3 hk1 hi1 hL hL2 hm, ?_⟩, fun z => ⟨0, _, by omega, w_wrong (x := 1) (by decide) h, ?_⟩⟩
  · rw [nam_23 hat e35]
    rintro v μ7 ⟨ev, em⟩
    rw [em, ev]
    refine ⟨fun w => bl_X10_fresh_1 (by decide) ⟨fun _ => ?_, fun z => absurd h.2.1 z⟩, fun w => ⟨0, _, by omega, w_wrong (x := 3) (by decide) h, ?_⟩⟩
    · rw [nam_23 hat e35]
      rintro x4 ex
      refine ⟨2, _, by omega, c_token (by omega) hWd h.1 h.2.2.1 hat, ?_⟩
      rintro μ8 ⟨N, a8⟩
      refine ⟨N.w, ?_⟩
      rw [nwR, if_pos e35, if_pos w]
      exact ⟨ex, h.tk N a8⟩
    · rintro μ8 ⟨F8, f8⟩
      exact bad μ8 3 p F8 f8 (by rw [nwR, if_pos e35, if_neg w])
  · rintro μ9 ⟨F9, f9⟩
    exact bad μ9 1 p F9 f9 (by rw [nwR, if_neg z])
theorem c_X10_toldAhead (hd : 1 ≤ d) (h2 : x2 = nI a) (h3 : x3 = nI m) (hk1 : gsh k1 = (1, (gsh k1).2.1, 0)) (hi1 : i1 < gkn k1) (hL : (gsh k1).2.1 = Ln) (hL2 : Ln < 2 ^ 31) (hm : a + m ≤ Ln) (h : rlM lg tb L μ p) : Ctr l D d yX10_toldAhead cX10_toldAhead 4 (some .int) [.ref (D.2.2 10 0), .ref (D.2.2 k1 i1), .int x2, .int x3] μ (pI (fun v μ' => rwF μ μ' ∧ rsM lg tb L (tnR lg tb L (fun z => μ.1 k1 i1 (a + z)) m p) v μ')) := by
  have hat := h.2.2.2
  refine en_X10_toldAhead (fun Γ => bl_X10_toldAhead_0 (by decide) hk1 hi1 ⟨fun _ => ?_, fun z => absurd h.2.1 z⟩)
  rw [(isN2 hat).2.1]
  have bad : ∀ μ' k q, rwF μ μ' → flM μ' k q → tnR lg tb L (fun z => μ.1 k1 i1 (a + z)) m p = .inl (k, q) → pt_X10_toldAhead_1 l D d (fun v μ' => rwF μ μ' ∧ rsM lg tb L (tnR lg tb L (fun z => μ.1 k1 i1 (a + z)) m p) v μ') Γ 0 k1 i1 x2 x3 μ' := by
    intro μ' k q F fl e
    refine bl_X10_toldAhead_1 (by decide) hk1 hi1 ⟨fun z => absurd (fl.2.1.symm.trans z) fl.1, fun _ => ⟨F, ?_⟩⟩
    rw [e]
    exact fl
  refine ⟨fun e35 => ⟨0, _, by omega, c_X10_found h2 h3 hk1 hi1 hL hL2 hm, ?_⟩, fun z => ⟨0, _, by omega, w_wrong (x := 1) (by decide) h, ?_⟩⟩
  · rw [nam_23 hat e35]
    rintro v μ7 ⟨ev, em⟩
    rw [em, ev]
    refine ⟨fun w => bl_X10_toldAhead_1 (by decide) hk1 hi1 ⟨fun _ => ⟨0, _, by omega, c_X10_found h2 h3 hk1 hi1 hL hL2 hm, ?_⟩, fun z => absurd h.2.1 z⟩, fun w => ⟨0, _, by omega, w_wrong (x := 4) (by decide) h, ?_⟩⟩
    · rw [nam_23 hat e35]
      rintro v2 μ8 ⟨ev2, em2⟩
      rw [em2, ev2]
      refine ⟨rwF.rf, ?_⟩
      rw [tnR, if_pos e35, if_neg w]
      exact ⟨rfl, h⟩
    · rintro μ8 ⟨F8, f8⟩
      exact bad μ8 4 p F8 f8 (by rw [tnR, if_pos e35, if_pos w])
  · rintro μ9 ⟨F9, f9⟩
    exact bad μ9 1 p F9 f9 (by rw [tnR, if_neg z])
end LN
