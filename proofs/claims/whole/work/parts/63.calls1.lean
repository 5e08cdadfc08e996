/-! wear, goal, plan, lend -/
abbrev wearP (σ : sV) (x1 x2 : Int32) : Prop := isM (eMen σ.1.1) x1 ∧ ¬ σ.2.1.1 (ix x1) 10 = x2
def wearS (σ : sV) (x1 x2 : Int32) : sV := if wearP σ x1 x2 then psh σ (vSet σ.2.1 (ix x1) 10 x2) (0, x1, 0, σ.2.1.1 (ix x1) 10) else σ
abbrev goalP (σ : sV) (x1 x2 : Int32) : Prop := isM (eMen σ.1.1) x1 ∧ inR x2 0 99 ∧ ¬ σ.2.1.1 (ix x1) 0 = x2
def goalS (σ : sV) (x1 x2 : Int32) : sV := if goalP σ x1 x2 then psh σ (vSet σ.2.1 (ix x1) 0 x2) (1, x1, 0, σ.2.1.1 (ix x1) 0) else σ
abbrev planP (σ : sV) (x1 x2 x3 : Int32) : Prop := isM (eMen σ.1.1) x1 ∧ isM σ.1.2.1 x2 ∧ inR x3 0 9 ∧ ¬ σ.2.1.2.1 (ix x1) (ix x2) = x3
def planS (σ : sV) (x1 x2 x3 : Int32) : sV := if planP σ x1 x2 x3 then psh σ (vPut σ.2.1 (ix x1) (ix x2) x3) (2, x1, x2, σ.2.1.2.1 (ix x1) (ix x2)) else σ
abbrev lendP (σ : sV) (x1 x2 : Int32) : Prop := isM (eMen σ.1.1) x1 ∧ inR x2 1 99 ∧ (σ.2.1.1 (ix x1) 9 + x2).toInt ≤ 999
def lendS (σ : sV) (x1 x2 : Int32) : sV := if lendP σ x1 x2 then psh σ (vSet σ.2.1 (ix x1) 9 (σ.2.1.1 (ix x1) 9 + x2)) (3, x1, 0, σ.2.1.1 (ix x1) 9) else σ
def lendV (σ : sV) (x1 x2 : Int32) : Int32 := if lendP σ x1 x2 then σ.2.1.1 (ix x1) 9 + x2 else -1
theorem chg_set {men n : Nat} {V : wV} {p j : Nat} {x x1 kd de : Int32} (hp : p < men) (e : x1 = nI p) (hk : kd = 0 ∧ j = 10 ∧ (V.1 p 10 = 0 ∨ V.1 p 10 = 1) ∨ kd = 1 ∧ j = 0 ∨ kd = 3 ∧ j = 9) : chg men n (kd, x1, de, V.1 p j) (vSet V p j x) V := by
  refine ⟨rfl, p, hp, e, ?_⟩
  have hb : V.1 = setS (vSet V p j x).1 p j (V.1 p j) := setS_back.symm
  rcases hk with ⟨a, b, c⟩ | ⟨a, b⟩ | ⟨a, b⟩
  · subst a b; exact Or.inl ⟨rfl, c, hb, rfl⟩
  · subst a b; exact Or.inr (Or.inl ⟨rfl, hb, rfl⟩)
  · subst a b; exact Or.inr (Or.inr (Or.inr ⟨rfl, hb, rfl⟩))
theorem wearS_ok {σ : sV} {x1 x2 : Int32} (h : sOkS σ) (hx : x2 = 0 ∨ x2 = 1) : sOkS (wearS σ x1 x2) := by
  unfold wearS
  split
  · rename_i hc
    obtain ⟨m1, m2⟩ := isM_ix hc.1
    have h5 := h.1.1.1
    exact psh_ok h (okV_set h.2.1 h5 m2 (Or.inr (Or.inr ⟨rfl, hx⟩))) (chg_set m2 m1 (Or.inl ⟨rfl, rfl, h.2.1.1.2.2.2 _ (by omega)⟩))
  · exact h
theorem goalS_ok {σ : sV} {x1 x2 : Int32} (h : sOkS σ) : sOkS (goalS σ x1 x2) := by
  unfold goalS
  split
  · rename_i hc
    obtain ⟨m1, m2⟩ := isM_ix hc.1
    exact psh_ok h (okV_set h.2.1 h.1.1.1 m2 (Or.inl ⟨rfl, hc.2.1⟩)) (chg_set m2 m1 (Or.inr (Or.inl ⟨rfl, rfl⟩)))
  · exact h
theorem lendS_ok {σ : sV} {x1 x2 : Int32} (h : sOkS σ) : sOkS (lendS σ x1 x2) := by
  unfold lendS
  split
  · rename_i hc
    obtain ⟨m1, m2⟩ := isM_ix hc.1
    have h9 := (h.2.1.1.1 _ m2).1.2.2
    have e : (σ.2.1.1 (ix x1) 9 + x2).toInt = (σ.2.1.1 (ix x1) 9).toInt + x2.toInt := fb_addI (by have := hc.2.1; omega) (by have := hc.2.1; omega)
    exact psh_ok h (okV_set h.2.1 h.1.1.1 m2 (Or.inr (Or.inl ⟨rfl, by rw [e]; have := hc.2.1; omega, hc.2.2⟩))) (chg_set m2 m1 (Or.inr (Or.inr ⟨rfl, rfl⟩)))
  · exact h
theorem planS_ok {σ : sV} {x1 x2 x3 : Int32} (h : sOkS σ) : sOkS (planS σ x1 x2 x3) := by
  unfold planS
  split
  · rename_i hc
    obtain ⟨m1, m2⟩ := isM_ix hc.1
    obtain ⟨n1, n2⟩ := isM_ix hc.2.1
    have h6 := h.1.2.1
    exact psh_ok h (okV_put h.2.1 (by omega) hc.2.2.1) ⟨rfl, ix x1, m2, m1, Or.inr (Or.inr (Or.inl ⟨rfl, rfl, ix x2, n2, n1, setS_back.symm⟩))⟩
  · exact h
section M1
variable {l : Launch} {D : gD} {d : Nat} {μ : gMem} {t : Nat} {σ : sV} {x1 x2 x3 : Int32}
theorem cSt.row {p : Nat} (h : cSt μ t σ) (hp : p < 5) : μ.1 4 (5 * 0 + p) = σ.2.1.1 p := h.2.2.2.2.1.1 p hp
theorem c_X9_wear (hd : 2 ≤ d) (h : cSt μ t σ) (hO : sOkS σ) (hx : x2 = 0 ∨ x2 = 1) : Ctr l D d yX9_wear cX9_wear 3 (some .boolean) [.ref (D.2.2 9 0), .int x1, .int x2] μ (pI (fun v μ' => v = bI (wearP σ x1 x2) ∧ cSt μ' t (wearS σ x1 x2) ∧ mKp μ μ')) := by
  have hn := h.nC hO
  have em : eMen (eA σ) = eMen σ.1.1 := rfl
  have h5 := hO.1.1.1
  refine en_X9_wear (fun Γ => bl_X9_wear_0 (by decide) ?_)
  rw [h.1.1, hn.iw, em]
  have no : ¬ wearP σ x1 x2 → (0 : Int32) = bI (wearP σ x1 x2) ∧ cSt μ t (wearS σ x1 x2) ∧ mKp μ μ := fun z => ⟨by rw [bI, if_neg z], by rw [wearS, if_neg z]; exact h, mKp.rf⟩
  refine ⟨by omega, h.1.2.1, fun z => no (fun w => z w.1), fun z1 => ?_⟩
  have z1 := Decidable.not_not.mp z1
  obtain ⟨m1, m2⟩ := isM_ix z1
  refine ⟨ix x1, by omega, m1, ?_⟩
  rw [h.row (by omega)]
  refine ⟨fun z2 => ?_, fun z => no (fun w => w.2 z)⟩
  have hb := hO.2.1.1.2.2.2 (ix x1) (by omega)
  have fin : ∀ o : Int32, o = σ.2.1.1 (ix x1) 10 → pt_X9_wear_1 l D d (fun v μ' => v = bI (wearP σ x1 x2) ∧ cSt μ' t (wearS σ x1 x2) ∧ mKp μ μ') Γ 0 x1 x2 0 0 x1 0 o μ := by
    intro o ho
    refine bl_X9_wear_1 (by decide) (by decide) ⟨1, _, by omega, c_X0_add (Vn := vSet σ.2.1 (ix x1) 10 x2) (by omega) h.2.2.2.2.2.2.2.1 hO.2.2.2.2.1.1, ?_⟩
    rintro μ1 ⟨hF, hU⟩
    rw [ho] at hU
    refine ⟨ix x1, by omega, m1, hx, ?_⟩
    rw [Nat.mul_zero, Nat.zero_add]
    rintro μ2 e2
    refine ⟨by rw [bI, if_pos ⟨z1, z2⟩], ?_, by rw [e2]; exact hF.kp.put (by omega)⟩
    rw [e2, wearS, if_pos ⟨z1, z2⟩]
    exact cSt_set h (by omega) (by omega) hF hU
  refine ⟨fun q => fin 1 ?_, fun q => fin 0 ?_⟩
  · rcases hb with w | w
    · rw [q] at z2; exact absurd w z2
    · exact w.symm
  · rcases hb with w | w
    · exact w.symm
    · rcases hx with w2 | w2
      · exact absurd w2 q
      · exact absurd (w.trans w2.symm) z2
theorem c_X9_goal (hd : 2 ≤ d) (h : cSt μ t σ) (hO : sOkS σ) : Ctr l D d yX9_goal cX9_goal 3 (some .boolean) [.ref (D.2.2 9 0), .int x1, .int x2] μ (pI (fun v μ' => v = bI (goalP σ x1 x2) ∧ cSt μ' t (goalS σ x1 x2) ∧ mKp μ μ')) := by
  have hn := h.nC hO
  have em : eMen (eA σ) = eMen σ.1.1 := rfl
  have h5 := hO.1.1.1
  refine en_X9_goal (fun Γ => bl_X9_goal_0 (by decide) ?_)
  rw [h.1.1, hn.iw, em, iw_lit (x := x2) (za := 0) (zb := 99) (by decide) (by decide)]
  have no : ¬ goalP σ x1 x2 → (0 : Int32) = bI (goalP σ x1 x2) ∧ cSt μ t (goalS σ x1 x2) ∧ mKp μ μ := fun z => ⟨by rw [bI, if_neg z], by rw [goalS, if_neg z]; exact h, mKp.rf⟩
  refine ⟨by omega, h.1.2.1, fun z => no (fun w => z w.1), fun z1 => ⟨by omega, fun z => no (fun w => z w.2.1), fun z2 => ?_⟩⟩
  have z1 := Decidable.not_not.mp z1
  have z2 := Decidable.not_not.mp z2
  obtain ⟨m1, m2⟩ := isM_ix z1
  refine ⟨ix x1, by omega, m1, ?_⟩
  rw [h.row (by omega)]
  refine ⟨fun z3 => ⟨ix x1, by omega, m1, 1, _, by omega, c_X0_add (Vn := vSet σ.2.1 (ix x1) 0 x2) (by omega) h.2.2.2.2.2.2.2.1 hO.2.2.2.2.1.1, ?_⟩, fun z => no (fun w => w.2.2 z)⟩
  rintro μ1 ⟨hF, hU⟩
  rw [h.row (by omega)] at hU
  refine ⟨ix x1, by omega, m1, ?_⟩
  rw [Nat.mul_zero, Nat.zero_add]
  rintro μ2 e2
  refine ⟨by rw [bI, if_pos ⟨z1, z2, z3⟩], ?_, by rw [e2]; exact hF.kp.put (by omega)⟩
  rw [e2, goalS, if_pos ⟨z1, z2, z3⟩]
  exact cSt_set h (by omega) (by omega) hF hU
theorem c_X9_plan (hd : 2 ≤ d) (h : cSt μ t σ) (hO : sOkS σ) : Ctr l D d yX9_plan cX9_plan 5 (some .boolean) [.ref (D.2.2 9 0), .int x1, .int x2, .int x3] μ (pI (fun v μ' => v = bI (planP σ x1 x2 x3) ∧ cSt μ' t (planS σ x1 x2 x3) ∧ mKp μ μ')) := by
  have hn := h.nC hO
  have em : eMen (eA σ) = eMen σ.1.1 := rfl
  have h5 := hO.1.1.1
  have h6 := hO.1.2.1
  refine en_X9_plan (fun Γ => bl_X9_plan_0 (by decide) ?_)
  rw [h.1.1, hn.iw, em, nC_idd hn, iw_lit (x := x3) (za := 0) (zb := 9) (by decide) (by decide)]
  have no : ¬ planP σ x1 x2 x3 → (0 : Int32) = bI (planP σ x1 x2 x3) ∧ cSt μ t (planS σ x1 x2 x3) ∧ mKp μ μ := fun z => ⟨by rw [bI, if_neg z], by rw [planS, if_neg z]; exact h, mKp.rf⟩
  refine ⟨by omega, h.1.2.1, fun z => no (fun w => z w.1), fun z1 => ⟨by omega, h.1.2.1, fun z => no (fun w => z w.2.1), fun z2 => ⟨by omega, fun z3 => ?_, fun z => no (fun w => z w.2.2.1)⟩⟩⟩
  have z1 := Decidable.not_not.mp z1
  have z2 := Decidable.not_not.mp z2
  have z3 := Decidable.not_not.mp z3
  obtain ⟨m1, m2⟩ := isM_ix z1
  obtain ⟨n1, n2⟩ := isM_ix z2
  have er : μ.1 331 (5 * 0 + ix x1) = σ.2.1.2.1 (ix x1) := h.2.2.2.2.1.2.1 _ (by omega)
  refine ⟨ix x1, by omega, m1, ix x2, by omega, n1, ?_⟩
  rw [er]
  rintro x4 e4
  rw [e4]
  refine ⟨fun z4 => ⟨1, _, by omega, c_X0_add (Vn := vPut σ.2.1 (ix x1) (ix x2) x3) (by omega) h.2.2.2.2.2.2.2.1 hO.2.2.2.2.1.1, ?_⟩, fun z => no (fun w => w.2.2.2 z)⟩
  rintro μ1 ⟨hF, hU⟩
  refine ⟨ix x1, by omega, m1, ix x2, by omega, n1, ?_⟩
  rw [Nat.mul_zero, Nat.zero_add]
  rintro μ2 e2
  refine ⟨by rw [bI, if_pos ⟨z1, z2, z3, z4⟩], ?_, by rw [e2]; exact hF.kp.put (by omega)⟩
  rw [e2, planS, if_pos ⟨z1, z2, z3, z4⟩]
  exact cSt_put h (by omega) (by omega) hF hU
theorem c_X9_lend (hd : 2 ≤ d) (h : cSt μ t σ) (hO : sOkS σ) : Ctr l D d yX9_lend cX9_lend 4 (some .int) [.ref (D.2.2 9 0), .int x1, .int x2] μ (pI (fun v μ' => v = lendV σ x1 x2 ∧ cSt μ' t (lendS σ x1 x2) ∧ mKp μ μ')) := by
  have hn := h.nC hO
  have em : eMen (eA σ) = eMen σ.1.1 := rfl
  have h5 := hO.1.1.1
  refine en_X9_lend (fun Γ => bl_X9_lend_0 (by decide) ?_)
  rw [h.1.1, hn.iw, em, iw_lit (x := x2) (za := 1) (zb := 99) (by decide) (by decide)]
  have no : ¬ lendP σ x1 x2 → (-1 : Int32) = lendV σ x1 x2 ∧ cSt μ t (lendS σ x1 x2) ∧ mKp μ μ := fun z => ⟨by rw [lendV, if_neg z], by rw [lendS, if_neg z]; exact h, mKp.rf⟩
  refine ⟨by omega, h.1.2.1, fun z => no (fun w => z w.1), fun z1 => ⟨by omega, fun z2 => ?_, fun z => no (fun w => z w.2.1)⟩⟩
  have z1 := Decidable.not_not.mp z1
  have z2 := Decidable.not_not.mp z2
  obtain ⟨m1, m2⟩ := isM_ix z1
  refine ⟨ix x1, by omega, m1, ?_⟩
  rw [h.row (by omega), leL (z := 999) (by decide)]
  refine ⟨fun z3 => ⟨1, _, by omega, c_X0_add (Vn := vSet σ.2.1 (ix x1) 9 (σ.2.1.1 (ix x1) 9 + x2)) (by omega) h.2.2.2.2.2.2.2.1 hO.2.2.2.2.1.1, ?_⟩, fun z => no (fun w => z w.2.2)⟩
  rintro μ1 ⟨hF, hU⟩
  rw [hF.1 4 _ (by omega) (by omega), h.row (by omega), Nat.mul_zero, Nat.zero_add]
  rintro μ2 e2
  refine ⟨?_, ?_, by rw [e2]; exact hF.kp.put (by omega)⟩
  · rw [e2, gsI_s, lendV, if_pos ⟨z1, z2, z3⟩]
  · rw [e2, lendS, if_pos ⟨z1, z2, z3⟩]
    exact cSt_set h (by omega) (by omega) hF hU
end M1
section M2
variable {l : Launch} {D : gD} {d : Nat} {μ : gMem} {σ : sV} {x1 x2 x3 : Int32}
/-- thrown is taken back first -/
theorem mSt.th (h : mSt μ σ) (hO : sOkS σ) : mSt (gsI μ 10 0 0 0) σ ∧ cKp μ (gsI μ 10 0 0 0) := by
  have hF := (h.nM hO).th.1
  exact ⟨h.mv hO hF.v, hF.v.kp⟩
theorem mSt.row {p j : Nat} (h : mSt μ σ) (hp : p < eMen σ.1.1) (hj : j ≤ 10) : μ.1 (mkk j) 0 p = σ.2.1.1 p j := by
  have := h.2.2.1.1 p hp j hj
  rw [Nat.mul_zero, Nat.zero_add] at this
  exact this
theorem k_keep {c : Int32 × Int32 × Int32 × Int32} {Vn : wV} (hd : 1 ≤ d) (h : mSt μ σ) (hO : sOkS σ) : Ctr l D d yX10_keepNow cX10_keepNow 2 none [.ref (D.2.2 10 0)] μ (pV (fun μ' => kwF μ μ' ∧ unM μ' (eMen σ.1.1) (pushU σ.2.2.2.2.1 c Vn))) := c_X10_keepNow hd hO.1.1.1 h.2.2.2.2.2.1 hO.2.2.2.2.1.1 hO.2.2.2.2.1.2.1 h.2.2.1
theorem c_X10_wear (hd : 2 ≤ d) (h : mSt μ σ) (hO : sOkS σ) (hx : x2 = 0 ∨ x2 = 1) : Ctr l D d yX10_wear cX10_wear 3 (some .boolean) [.ref (D.2.2 10 0), .int x1, .int x2] μ (pI (fun v μ' => v = bI (wearP σ x1 x2) ∧ mSt μ' (wearS σ x1 x2) ∧ cKp μ μ')) := by
  have em : eMen (eA σ) = eMen σ.1.1 := rfl
  have h5 := hO.1.1.1
  refine en_X10_wear (fun Γ => bl_X10_wear_0 (by decide) ?_)
  rintro μ1 e1
  obtain ⟨h1, hK⟩ : mSt μ1 σ ∧ cKp μ μ1 := by rw [e1]; exact h.th hO
  clear e1
  have hn := h1.nM hO
  rw [hn.isn, em]
  have no : ¬ wearP σ x1 x2 → (0 : Int32) = bI (wearP σ x1 x2) ∧ mSt μ1 (wearS σ x1 x2) ∧ cKp μ μ1 := fun z => ⟨by rw [bI, if_neg z], by rw [wearS, if_neg z]; exact h1, hK⟩
  refine ⟨by omega, fun z => no (fun w => z w.1), fun z1 => ?_⟩
  have z1 := Decidable.not_not.mp z1
  obtain ⟨m1, m2⟩ := isM_ix z1
  have r10 : μ1.1 747 0 (ix x1) = σ.2.1.1 (ix x1) 10 := h1.row m2 (j := 10) (by omega)
  refine ⟨ix x1, by omega, m1, ?_⟩
  rw [r10]
  have hb := hO.2.1.1.2.2.2 (ix x1) (by omega)
  have fin : ∀ o : Int32, o = σ.2.1.1 (ix x1) 10 → pt_X10_wear_1 l D d (fun v μ' => v = bI (wearP σ x1 x2) ∧ mSt μ' (wearS σ x1 x2) ∧ cKp μ μ') Γ 0 x1 x2 o μ1 := by
    intro o ho
    refine bl_X10_wear_1 (by decide) ⟨fun z2 => ⟨1, _, by omega, k_keep (c := (0, x1, 0, σ.2.1.1 (ix x1) 10)) (Vn := vSet σ.2.1 (ix x1) 10 x2) (by omega) h1 hO, ?_⟩, fun z => no (fun w => w.2 (by rw [← ho]; exact z))⟩
    rintro μ2 ⟨hF, hU⟩
    rw [ho] at z2
    have last : ∀ y : Int32, y = x2 → pt_X10_wear_2 l D d (fun v μ' => v = bI (wearP σ x1 x2) ∧ mSt μ' (wearS σ x1 x2) ∧ cKp μ μ') Γ 0 x1 y μ2 := by
      intro y hy
      refine bl_X10_wear_2 (by decide) ⟨ix x1, by omega, m1, ?_⟩
      rw [hy]
      rintro μ3 e3
      refine ⟨by rw [bI, if_pos ⟨z1, z2⟩], ?_, by rw [e3]; exact (hK.tr hF.kp).put (by omega)⟩
      rw [e3, wearS, if_pos ⟨z1, z2⟩]
      exact mSt_set h1 hO m2 (by omega) (j := 10) rfl hF hU
    refine ⟨fun q => last 0 q.symm, fun q => last 1 ?_⟩
    rcases hx with w | w
    · exact absurd w q
    · exact w.symm
  refine ⟨fun z => fin 0 ?_, fun z => fin 1 z.symm⟩
  rcases hb with w | w
  · exact w.symm
  · exact absurd w z
theorem c_X10_goal (hd : 2 ≤ d) (h : mSt μ σ) (hO : sOkS σ) : Ctr l D d yX10_goal cX10_goal 3 (some .boolean) [.ref (D.2.2 10 0), .int x1, .int x2] μ (pI (fun v μ' => v = bI (goalP σ x1 x2) ∧ mSt μ' (goalS σ x1 x2) ∧ cKp μ μ')) := by
  have em : eMen (eA σ) = eMen σ.1.1 := rfl
  have h5 := hO.1.1.1
  refine en_X10_goal (fun Γ => bl_X10_goal_0 (by decide) ?_)
  rintro μ1 e1
  obtain ⟨h1, hK⟩ : mSt μ1 σ ∧ cKp μ μ1 := by rw [e1]; exact h.th hO
  clear e1
  have hn := h1.nM hO
  rw [hn.isn, em, lt0, gtL (z := 99) (by decide)]
  have no : ¬ goalP σ x1 x2 → (0 : Int32) = bI (goalP σ x1 x2) ∧ mSt μ1 (goalS σ x1 x2) ∧ cKp μ μ1 := fun z => ⟨by rw [bI, if_neg z], by rw [goalS, if_neg z]; exact h1, hK⟩
  refine ⟨by omega, fun z => no (fun w => z w.1), fun z1 => ⟨fun z => no (fun w => by have := w.2.1; omega), fun z2 => ⟨fun z => no (fun w => by have := w.2.1; omega), fun z3 => ?_⟩⟩⟩
  have z1 := Decidable.not_not.mp z1
  have y2 : inR x2 0 99 := by omega
  obtain ⟨m1, m2⟩ := isM_ix z1
  refine ⟨ix x1, by omega, m1, ?_⟩
  rw [show μ1.1 740 0 (ix x1) = σ.2.1.1 (ix x1) 0 from h1.row m2 (j := 0) (by omega)]
  refine ⟨fun z4 => ⟨1, _, by omega, k_keep (c := (1, x1, 0, σ.2.1.1 (ix x1) 0)) (Vn := vSet σ.2.1 (ix x1) 0 x2) (by omega) h1 hO, ?_⟩, fun z => no (fun w => w.2.2 z)⟩
  rintro μ2 ⟨hF, hU⟩
  refine ⟨ix x1, by omega, m1, ?_⟩
  rintro μ3 e3
  refine ⟨by rw [bI, if_pos ⟨z1, y2, z4⟩], ?_, by rw [e3]; exact (hK.tr hF.kp).put (by omega)⟩
  rw [e3, goalS, if_pos ⟨z1, y2, z4⟩]
  exact mSt_set h1 hO m2 (by omega) (j := 0) rfl hF hU
theorem c_X10_plan (hd : 2 ≤ d) (h : mSt μ σ) (hO : sOkS σ) : Ctr l D d yX10_plan cX10_plan 4 (some .boolean) [.ref (D.2.2 10 0), .int x1, .int x2, .int x3] μ (pI (fun v μ' => v = bI (planP σ x1 x2 x3) ∧ mSt μ' (planS σ x1 x2 x3) ∧ cKp μ μ')) := by
  have em : eMen (eA σ) = eMen σ.1.1 := rfl
  have h5 := hO.1.1.1
  have h6 := hO.1.2.1
  refine en_X10_plan (fun Γ => bl_X10_plan_0 (by decide) ?_)
  rintro μ1 e1
  obtain ⟨h1, hK⟩ : mSt μ1 σ ∧ cKp μ μ1 := by rw [e1]; exact h.th hO
  clear e1
  have hn := h1.nM hO
  rw [hn.isn, em, nM_idd hn, lt0, gtL (z := 9) (by decide)]
  have no : ¬ planP σ x1 x2 x3 → (0 : Int32) = bI (planP σ x1 x2 x3) ∧ mSt μ1 (planS σ x1 x2 x3) ∧ cKp μ μ1 := fun z => ⟨by rw [bI, if_neg z], by rw [planS, if_neg z]; exact h1, hK⟩
  refine ⟨by omega, fun z => no (fun w => z w.1), fun z1 => ⟨by omega, fun z => no (fun w => z w.2.1), fun z2 => ⟨fun z => no (fun w => by have := w.2.2.1; omega), fun z3 => ⟨fun z => no (fun w => by have := w.2.2.1; omega), fun z4 => ?_⟩⟩⟩⟩
  have z1 := Decidable.not_not.mp z1
  have z2 := Decidable.not_not.mp z2
  have y3 : inR x3 0 9 := by omega
  obtain ⟨m1, m2⟩ := isM_ix z1
  obtain ⟨n1, n2⟩ := isM_ix z2
  have ei : ((6 : Int32) * x1) + x2 = nI (6 * ix x1 + ix x2) := by
    have e : ((6 : Int32) * nI (ix x1)) + nI (ix x2) = nI (6 * ix x1 + ix x2) := by rw [show (6 : Int32) = nI 6 from rfl, pk_mul, nI_add]
    rw [← m1, ← n1] at e
    exact e
  refine ⟨6 * ix x1 + ix x2, by omega, ei, ?_⟩
  have er : μ1.1 751 0 (6 * ix x1 + ix x2) = σ.2.1.2.1 (ix x1) (ix x2) := by
    have := h1.2.2.1.2.1 (ix x1) (by omega) (ix x2) (by omega)
    rw [show 30 * 0 + 6 * ix x1 + ix x2 = 6 * ix x1 + ix x2 by omega] at this
    exact this
  rw [er]
  refine ⟨fun z5 => ⟨1, _, by omega, k_keep (c := (2, x1, x2, σ.2.1.2.1 (ix x1) (ix x2))) (Vn := vPut σ.2.1 (ix x1) (ix x2) x3) (by omega) h1 hO, ?_⟩, fun z => no (fun w => w.2.2.2 z)⟩
  rintro μ2 ⟨hF, hU⟩
  refine ⟨6 * ix x1 + ix x2, by omega, ei, ?_⟩
  rintro μ3 e3
  refine ⟨by rw [bI, if_pos ⟨z1, z2, y3, z5⟩], ?_, by rw [e3]; exact (hK.tr hF.kp).put (by omega)⟩
  rw [e3, planS, if_pos ⟨z1, z2, y3, z5⟩]
  exact mSt_put h1 hO (by omega) (by omega) hF hU
theorem c_X10_lend (hd : 2 ≤ d) (h : mSt μ σ) (hO : sOkS σ) : Ctr l D d yX10_lend cX10_lend 3 (some .int) [.ref (D.2.2 10 0), .int x1, .int x2] μ (pI (fun v μ' => v = lendV σ x1 x2 ∧ mSt μ' (lendS σ x1 x2) ∧ cKp μ μ')) := by
  have em : eMen (eA σ) = eMen σ.1.1 := rfl
  have h5 := hO.1.1.1
  refine en_X10_lend (fun Γ => bl_X10_lend_0 (by decide) ?_)
  rintro μ1 e1
  obtain ⟨h1, hK⟩ : mSt μ1 σ ∧ cKp μ μ1 := by rw [e1]; exact h.th hO
  clear e1
  have hn := h1.nM hO
  rw [hn.isn, em, ltL (z := 1) (by decide), gtL (z := 99) (by decide)]
  have no : ¬ lendP σ x1 x2 → (-1 : Int32) = lendV σ x1 x2 ∧ mSt μ1 (lendS σ x1 x2) ∧ cKp μ μ1 := fun z => ⟨by rw [lendV, if_neg z], by rw [lendS, if_neg z]; exact h1, hK⟩
  refine ⟨by omega, fun z => no (fun w => z w.1), fun z1 => ⟨fun z => no (fun w => by have := w.2.1; omega), fun z2 => ⟨fun z => no (fun w => by have := w.2.1; omega), fun z3 => ?_⟩⟩⟩
  have z1 := Decidable.not_not.mp z1
  have y2 : inR x2 1 99 := by omega
  obtain ⟨m1, m2⟩ := isM_ix z1
  refine ⟨ix x1, by omega, m1, ?_⟩
  rw [show μ1.1 748 0 (ix x1) = σ.2.1.1 (ix x1) 9 from h1.row m2 (j := 9) (by omega), leL (z := 999) (by decide)]
  refine ⟨fun z4 => ⟨1, _, by omega, k_keep (c := (3, x1, 0, σ.2.1.1 (ix x1) 9)) (Vn := vSet σ.2.1 (ix x1) 9 (σ.2.1.1 (ix x1) 9 + x2)) (by omega) h1 hO, ?_⟩, fun z => no (fun w => z w.2.2)⟩
  rintro μ2 ⟨hF, hU⟩
  have r9 : μ2.1 748 0 (ix x1) = σ.2.1.1 (ix x1) 9 := by
    have := (hF.2.2.2 (eMen σ.1.1) 0 _ h5 (by omega) h1.2.2.1).1 (ix x1) m2 9 (by omega)
    rw [Nat.mul_zero, Nat.zero_add] at this
    exact this
  refine ⟨ix x1, by omega, m1, ix x1, by omega, m1, ?_⟩
  rw [r9]
  rintro μ3 e3
  refine ⟨ix x1, by omega, m1, ?_, ?_, by rw [e3]; exact (hK.tr hF.kp).put (by omega)⟩
  · rw [e3, gsI_s, lendV, if_pos ⟨z1, y2, z4⟩]
  · rw [e3, lendS, if_pos ⟨z1, y2, z4⟩]
    exact mSt_set h1 hO m2 (by omega) (j := 9) rfl hF hU
end M2
