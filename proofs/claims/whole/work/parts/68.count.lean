/-! count; the reference's man -/
def cntF (σ : sV) (x : Int32) : Int32 := if x = 0 then nI (eMen σ.1.1) else if x = 1 then nI σ.1.2.1 else if x = 2 then σ.1.2.2.2.2.2.2.1 else if x = 3 then σ.1.2.2.2.2.2.2.2.2.2 else if x = 4 then nI σ.2.1.2.2.1 else if x = 5 then σ.2.1.2.2.2.1 else if x = 6 then smF (fun p => σ.2.1.1 p 5) (eMen σ.1.1) else if x = 7 then smF (fun p => σ.2.1.1 p 6) (eMen σ.1.1) else if x = 8 then smF (fun p => σ.2.1.1 p 7) (eMen σ.1.1) else if x = 9 then smF (fun p => σ.2.1.1 p 8) (eMen σ.1.1) else if x = 10 then smF (fun p => σ.2.1.1 p 3) (eMen σ.1.1) else if x = 11 then nI σ.2.2.1.1 else if x = 12 then fkn σ.2.2.1.2.1 (nI σ.2.2.1.1) else if x = 13 then nI σ.2.2.2.2.1.1 else -1
theorem cnt_no {σ : sV} {x : Int32} (h : ¬ x = 0 ∧ ¬ x = 1 ∧ ¬ x = 2 ∧ ¬ x = 3 ∧ ¬ x = 4 ∧ ¬ x = 5 ∧ ¬ x = 6 ∧ ¬ x = 7 ∧ ¬ x = 8 ∧ ¬ x = 9 ∧ ¬ x = 10 ∧ ¬ x = 11 ∧ ¬ x = 12 ∧ ¬ x = 13) : cntF σ x = -1 := by
  obtain ⟨h0, h1, h2, h3, h4, h5, h6, h7, h8, h9, h10, h11, h12, h13⟩ := h
  rw [cntF, if_neg h0, if_neg h1, if_neg h2, if_neg h3, if_neg h4, if_neg h5, if_neg h6, if_neg h7, if_neg h8, if_neg h9, if_neg h10, if_neg h11, if_neg h12, if_neg h13]
section CN
variable {l : Launch} {D : gD} {d : Nat} {μ : gMem} {t : Nat} {σ : sV} {x1 : Int32}
theorem c_X9_count (hd : 1 ≤ d) (h : cSt μ t σ) (hO : sOkS σ) : Ctr l D d yX9_count cX9_count 2 (some .int) [.ref (D.2.2 9 0), .int x1] μ (pI (fun v μ' => v = cntF σ x1 ∧ μ' = μ)) := by
  have hm := hO.1.1.1
  have a0 := h.1.1
  have hT := h.2.2.2.1
  have hW := h.2.2.2.2.1
  have hN := h.2.2.2.2.2.1
  have hU := h.2.2.2.2.2.2.2.1
  have sm : ∀ y : Int32, ∀ z, iaS y = z → ∃ (d_7 : Nat) (q_8 : Int32 → gMem → Prop), d_7 < d ∧ Ctr l D d_7 yX8_inAll cX8_inAll 6 (some .int) [.ref (D.2.2 8 0), .int y, .int (μ.1 7 t 0)] μ (pI q_8) ∧ ∀ (v : Int32) (μ' : gMem), q_8 v μ' → v = smF (fun p => σ.2.1.1 p z) (eMen σ.1.1) ∧ μ' = μ := by
    intro y z hz
    refine ⟨0, _, by omega, c_X8_inAll hT.1.1 (by omega) hm, ?_⟩
    rintro v μ' ⟨e1, e2⟩
    refine ⟨?_, e2⟩
    rw [e1, hz]
    exact smF_cong _ (fun k hk => by rw [hW.1 k (by omega)])
  refine en_X9_count (fun Γ => bl_X9_count_0 (by decide) ?_)
  rw [a0]
  have ht := h.1.2.1
  refine ⟨?_, ?_, ?_, ?_, ?_, ?_, ?_, ?_, ?_, ?_, ?_, ?_, ?_, ?_, fun z => ⟨(cnt_no z).symm, rfl⟩⟩
  · rintro rfl; exact ⟨ht, hT.1.1, rfl⟩
  · rintro rfl; exact ⟨ht, hT.1.2.1, rfl⟩
  · rintro rfl; exact ⟨ht, hT.2.2.2.2.1, rfl⟩
  · rintro rfl; exact ⟨ht, hT.2.2.2.2.2.2.2, rfl⟩
  · rintro rfl; exact ⟨hW.2.2.1, rfl⟩
  · rintro rfl; exact ⟨hW.2.2.2.1, rfl⟩
  · rintro rfl; exact ⟨ht, sm 0 5 (by decide)⟩
  · rintro rfl; exact ⟨ht, sm 1 6 (by decide)⟩
  · rintro rfl; exact ⟨ht, sm 2 7 (by decide)⟩
  · rintro rfl; exact ⟨ht, sm 3 8 (by decide)⟩
  · rintro rfl; exact ⟨ht, sm 4 3 (by decide)⟩
  · rintro rfl; exact ⟨hN.1, rfl⟩
  · rintro rfl
    refine ⟨by omega, ?_, rfl⟩
    rw [hN.1, hN.2.1]
    rfl
  · rintro rfl; exact ⟨hU.1, rfl⟩
theorem c_X10_count (hd : 1 ≤ d) (h : mSt μ σ) (hO : sOkS σ) : Ctr l D d yX10_count cX10_count 2 (some .int) [.ref (D.2.2 10 0), .int x1] μ (pI (fun v μ' => v = cntF σ x1 ∧ mSt μ' σ ∧ cKp μ μ')) := by
  have hm := hO.1.1.1
  refine en_X10_count (fun Γ => bl_X10_count_0 (by decide) ?_)
  rintro μ0 e0
  obtain ⟨h1, hK⟩ : mSt μ0 σ ∧ cKp μ μ0 := by rw [e0]; exact h.th hO
  clear e0
  have hT := h1.2.1
  have hW := h1.2.2.1
  have hN := h1.2.2.2.1
  have hU := h1.2.2.2.2.2.1
  have sm : ∀ z, z ≤ 10 → ∀ k, k = mkk z → gsh k = (1, 115, 0) → 0 < gkn k → ∃ (d_9 : Nat) (q_10 : Int32 → gMem → Prop), d_9 < d ∧ Ctr l D d_9 yX10_sumOf cX10_sumOf 5 (some .int) [.ref (D.2.2 10 0), .ref (D.2.2 k 0), .int (0 : Int32)] μ0 (pI q_10) ∧ ∀ (v : Int32) (μ' : gMem), q_10 v μ' → v = smF (fun p => σ.2.1.1 p z) (eMen σ.1.1) ∧ mSt μ' σ ∧ cKp μ μ' := by
    intro z hz k hk g1 g2
    refine ⟨0, _, by omega, c_X10_sumOf (w := 0) (men := eMen σ.1.1) rfl g1 g2 (by omega) hm hT.1.1, ?_⟩
    rintro v μ' ⟨e1, e2⟩
    refine ⟨?_, by rw [e2]; exact ⟨h1, hK⟩⟩
    rw [e1]
    refine smF_cong _ (fun p hp => ?_)
    rw [hk]
    exact hW.1 p hp z hz
  refine ⟨?_, ?_, ?_, ?_, ?_, ?_, ?_, ?_, ?_, ?_, ?_, ?_, ?_, ?_, fun z => ⟨(cnt_no z).symm, h1, hK⟩⟩
  · rintro rfl; exact ⟨hT.1.1, h1, hK⟩
  · rintro rfl; exact ⟨hT.1.2.1, h1, hK⟩
  · rintro rfl; exact ⟨hT.2.2.2.2.1, h1, hK⟩
  · rintro rfl; exact ⟨hT.2.2.2.2.2.2.2, h1, hK⟩
  · rintro rfl; exact ⟨hW.2.2.1, h1, hK⟩
  · rintro rfl; exact ⟨hW.2.2.2.1, h1, hK⟩
  · rintro rfl; exact sm 5 (by omega) 745 (by decide) (by decide) (by decide)
  · rintro rfl; exact sm 6 (by omega) 746 (by decide) (by decide) (by decide)
  · rintro rfl; exact sm 7 (by omega) 749 (by decide) (by decide) (by decide)
  · rintro rfl; exact sm 8 (by omega) 750 (by decide) (by decide) (by decide)
  · rintro rfl; exact sm 3 (by omega) 743 (by decide) (by decide) (by decide)
  · rintro rfl; exact ⟨hN.1, h1, hK⟩
  · rintro rfl
    refine ⟨by omega, ?_, h1, hK⟩
    rw [hN.1, hN.2.1]
    rfl
  · rintro rfl; exact ⟨hU.1, h1, hK⟩
/-- what man answers, and what is thrown: 0 nothing, 1 no such man, 2 no such thing -/
def manE (σ : sV) (x1 x2 : Int32) : Int32 := if isM (eMen σ.1.1) x1 then (if inR x2 0 7 then 0 else 2) else 1
def manJ (x : Int32) : Nat := if x = 0 then 0 else if x = 1 then 1 else if x = 3 then 2 else if x = 4 then 3 else if x = 5 then 4 else if x = 6 then 5 else 6
def manV (σ : sV) (x1 x2 : Int32) : Int32 := if x2 = 2 then σ.1.1.2.2.2.1.2.2 (ix x1) else σ.2.1.1 (ix x1) (manJ x2)
theorem mSt_tw {v : Int32} (h : mSt μ σ) (hO : sOkS σ) : mSt (gsI μ 10 0 0 v) σ ∧ cKp μ (gsI μ 10 0 0 v) := by
  have hF : mvF μ (gsI μ 10 0 0 v) := ⟨fun k j _ b _ _ _ => gsI_off (by omega), fun k a b z c => by rw [gsI_off (by omega)], fun k a b z c => by rw [gsI_off (by omega)], fun z a => by rw [gsI_off (by omega)], fun j a b c => by rw [gsI_at, if_neg (by omega)], rfl, fun _ _ _ _ => rfl⟩
  exact ⟨h.mv hO hF, hF.kp⟩
theorem c_X10_man {x2 : Int32} (hd : 1 ≤ d) (h : mSt μ σ) (hO : sOkS σ) : Ctr l D d yX10_man cX10_man 3 (some .int) [.ref (D.2.2 10 0), .int x1, .int x2] μ (pI (fun v μ' => (v = if manE σ x1 x2 = 0 then manV σ x1 x2 else 0) ∧ μ'.1 10 0 0 = manE σ x1 x2 ∧ mSt μ' σ ∧ cKp μ μ')) := by
  have hm := hO.1.1.1
  have em : eMen (eA σ) = eMen σ.1.1 := rfl
  refine en_X10_man (fun Γ => bl_X10_man_0 (by decide) ?_)
  have lt0 : x2 < 0 ↔ x2.toInt < 0 := by rw [i32_lt, i32_0]
  have le7 : x2 ≤ (7 : Int32) ↔ x2.toInt ≤ 7 := by rw [i32_le]; exact Iff.rfl
  have nz : ∀ v : Int32, ¬ v = 0 → manE σ x1 x2 = v → pt_X10_man_2 l D d (fun v μ' => (v = if manE σ x1 x2 = 0 then manV σ x1 x2 else 0) ∧ μ'.1 10 0 0 = manE σ x1 x2 ∧ mSt μ' σ ∧ cKp μ μ') Γ 0 x1 x2 0 v μ := by
    intro v hv e
    refine bl_X10_man_2 (by decide) (by decide) ?_
    rintro μ1 e1
    have hs : μ1.1 10 0 0 = v := by rw [e1, gsI_s]
    rw [hs]
    refine ⟨fun z => absurd z hv, fun _ => ⟨by rw [e, if_neg hv], e.symm, ?_⟩⟩
    rw [e1]
    exact mSt_tw h hO
  rw [(h.nM hO).isn, em, lt0, le7]
  refine ⟨by omega, fun z1 => ?_, fun z1 => nz 1 (by decide) (by rw [manE, if_neg z1])⟩
  have z1 := Decidable.not_not.mp z1
  have n2 : ¬ inR x2 0 7 → pt_X10_man_1 l D d (fun v μ' => (v = if manE σ x1 x2 = 0 then manV σ x1 x2 else 0) ∧ μ'.1 10 0 0 = manE σ x1 x2 ∧ mSt μ' σ ∧ cKp μ μ') Γ 0 x1 x2 0 μ := fun w => bl_X10_man_1 (by decide) (by decide) (nz 2 (by decide) (by rw [manE, if_pos z1, if_neg w]))
  refine ⟨fun z2 => n2 (fun w => by have := w.1; omega), fun z2 => ⟨fun z3 => ?_, fun z3 => n2 (fun w => by have := w.2; omega)⟩⟩
  have hE : manE σ x1 x2 = 0 := by rw [manE, if_pos z1, if_pos ⟨by omega, z3⟩]
  obtain ⟨m1, m2⟩ := isM_ix z1
  refine bl_X10_man_2 (by decide) (by decide) ?_
  rintro μ1 e1
  have hs : μ1.1 10 0 0 = 0 := by rw [e1, gsI_s]
  obtain ⟨h1, hK⟩ : mSt μ1 σ ∧ cKp μ μ1 := by rw [e1]; exact mSt_tw h hO
  clear e1
  rw [hs, hE]
  refine ⟨fun _ => ?_, fun z => absurd rfl z⟩
  have rw5 : ∀ j, j ≤ 10 → manJ x2 = j → ¬ x2 = 2 → ∃ j_4 : Nat, j_4 < 115 ∧ x1 = nI j_4 ∧ ((μ1.1 (mkk j) 0 j_4 = if (0 : Int32) = 0 then manV σ x1 x2 else 0) ∧ (0 : Int32) = 0 ∧ mSt μ1 σ ∧ cKp μ μ1) := by
    intro j hj e n
    refine ⟨ix x1, by omega, m1, ?_, rfl, h1, hK⟩
    rw [if_pos rfl, manV, if_neg n, e]
    exact h1.row m2 hj
  refine ⟨?_, ?_, ?_, ?_, ?_, ?_, ?_, fun n => ?_⟩
  · rintro e; exact rw5 0 (by omega) (by rw [e]; decide) (by rw [e]; decide)
  · rintro e; exact rw5 1 (by omega) (by rw [e]; decide) (by rw [e]; decide)
  · rintro e
    refine ⟨ix x1, by omega, m1, ?_, rfl, h1, hK⟩
    rw [if_pos rfl, manV, if_pos e]
    exact h1.2.1.1.2.2.2.2.2.2 _ m2
  · rintro e; exact rw5 2 (by omega) (by rw [e]; decide) (by rw [e]; decide)
  · rintro e; exact rw5 3 (by omega) (by rw [e]; decide) (by rw [e]; decide)
  · rintro e; exact rw5 4 (by omega) (by rw [e]; decide) (by rw [e]; decide)
  · rintro e; exact rw5 5 (by omega) (by rw [e]; decide) (by rw [e]; decide)
  · exact rw5 6 (by omega) (by rw [manJ, if_neg n.1, if_neg n.2.1, if_neg n.2.2.2.1, if_neg n.2.2.2.2.1, if_neg n.2.2.2.2.2.1, if_neg n.2.2.2.2.2.2]) n.2.2.1
end CN
