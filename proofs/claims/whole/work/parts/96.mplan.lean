/-! LINES of the reference: plan, law -/
noncomputable def lnP1 (lg : Nat → Int32) (tb : Nat → Nat) (L : Nat) (δ : dfT) (p : Nat) : rsL dfT := bnd (tnR lg tb L δ.1.2.1 δ.1.1 p) fun m q => bnd (tnR lg tb L δ.2.1.2.1 δ.2.1.1 (nxP lg tb L q)) fun n q => if δ.2.2.1.2 (ix m * 6 + ix n) = 0 then bnd (nuR lg tb L 1 9 (nxP lg tb L q)) (fun v q => .inr ((δ.1, δ.2.1, (δ.2.2.1.1 + 1, upI δ.2.2.1.2 (ix m * 6 + ix n) v), δ.2.2.2), q)) else .inl (3, q)
noncomputable def lnL1 (lg : Nat → Int32) (tb : Nat → Nat) (L : Nat) (δ : dfT) (p : Nat) : rsL dfT := if inR (tkK lg tb L p) 8 10 then (if δ.2.2.2.2.1.2.2.1 (ix (tkK lg tb L p) - 8) < δ.2.2.2.2.1.2.2.2 (ix (tkK lg tb L p) - 8) then .inl (3, p) else lwR lg tb L (ix (tkK lg tb L p) - 8) δ (nxP lg tb L p)) else .inl (1, p)
def lnG (lg : Nat → Int32) (tb : Nat → Nat) (L : Nat) (R : rsL dfT) (μ : gMem) : Prop := match R with | .inl (k, q) => flM μ k q | .inr (δ', q) => rlM lg tb L μ q ∧ dfM μ δ'
theorem le_0 {x : Int32} (h : 0 ≤ x.toInt) : x ≤ 0 ↔ x = 0 := by
  have e := ix_nI h
  have hx : ix x < 2 ^ 31 := by
    have := fb_rng x
    unfold ix
    omega
  rw [e, show (0 : Int32) = nI 0 from rfl, nI_leI hx (by omega), nI_eq hx (by omega)]
  omega
section MP
variable {l : Launch} {D : gD} {d : Nat} {μ μ0 μ1 : gMem} {lg : Nat → Int32} {tb : Nat → Nat} {L p n : Nat} {δ : dfT} {Γ : gC}
theorem l_goOn (hd : 3 ≤ d) (hWd : WordC l D lg) (h : rlM lg tb L μ p) : Ctr l D d yX10_goOn cX10_goOn 1 none [.ref (D.2.2 10 0)] μ (pV (fun μ' => nkM μ μ' ∧ rlM lg tb L μ' (nxP lg tb L p))) := by
  refine en_X10_goOn (fun Γ => bl_X10_goOn_0 (by decide) ⟨fun z => absurd h.2.1 z, fun _ => ⟨2, _, by omega, c_token (by omega) hWd h.1 h.2.2.1 h.2.2.2, ?_⟩⟩)
  rintro μ' ⟨N, a⟩
  exact ⟨N, h.tk N a⟩
theorem plan_1b {x3 : Int32} {q : gMem → Prop} (hd : 0 < d) (h : ¬ μ.1 10 0 24 = 0) (hq : q μ) : pt_X10_planLine_1 l D d q Γ 0 x3 μ := by
  refine bl_X10_planLine_1 (by decide) ⟨0, _, hd, n_goOn h, ?_⟩
  rintro μ5 e5
  rw [e5]
  refine ⟨0, _, hd, n_numeral h, ?_⟩
  rintro v μ12 ⟨-, e12⟩ x4 -
  rw [e12]
  exact ⟨fun z => absurd z h, fun _ => hq⟩
theorem c_X10_planLine (hd : 4 ≤ d) (hWd : WordC l D lg) (hB : dfB δ) (hR : dfR δ) (h : rlM lg tb L μ p) (hM : dfM μ δ) : Ctr l D d yX10_planLine cX10_planLine 5 none [.ref (D.2.2 10 0)] μ (pV (fun μ' => lmF μ μ' ∧ μ'.1 10 0 18 = μ.1 10 0 18 ∧ lnG lg tb L (lnP1 lg tb L δ p) μ')) := by
  obtain ⟨hB1, hB2, hB3, -⟩ := hB
  refine en_X10_planLine (fun Γ => bl_X10_planLine_0 (by decide) ⟨by omega, 1, _, by omega, c_X10_toldAhead (a := 5) (m := δ.1.1) (Ln := 10) (by omega) rfl hM.1.1 (by decide) (by decide) (by decide) (by decide) (by omega) h, ?_⟩)
  rintro v10 μ9 ⟨F9, q9⟩ x1 rfl
  rw [tnR_cong (g := δ.1.2.1) (fun k hk => (hM.1.2 k hk).1)] at q9
  have M9 : dfM μ9 δ := hM.w F9
  unfold lnP1
  obtain ⟨X, hX⟩ : ∃ X, tnR lg tb L δ.1.2.1 δ.1.1 p = X := ⟨_, rfl⟩
  rw [hX] at q9
  rcases X with ⟨k, q⟩ | ⟨m, q⟩
  · have f9 : flM μ9 k q := q9
    refine ⟨0, _, by omega, n_goOn f9.nz, ?_⟩
    rintro μ17 e17
    rw [e17]
    refine ⟨by omega, 0, _, by omega, n_toldAhead (by decide) (by decide) f9.nz, ?_⟩
    rintro v29 μ28 ⟨-, e28⟩ x2 - x3 -
    rw [e28]
    refine ⟨fun _ => plan_1b (by omega) f9.nz ⟨F9.m, F9.2.1 18 (by omega), ?_⟩, fun z => absurd z f9.nz⟩
    rw [bnd_l hX]
    exact f9
  obtain ⟨ev, r9⟩ := q9
  rw [bnd_r hX]
  obtain ⟨rfl, j1, hj1, em⟩ := tnR_inr hX
  subst ev
  refine ⟨3, _, by omega, l_goOn (by omega) hWd r9, ?_⟩
  rintro μ17 ⟨N17, r17⟩
  have M17 : dfM μ17 δ := M9.w N17.w
  refine ⟨by omega, 1, _, by omega, c_X10_toldAhead (a := 6) (m := δ.2.1.1) (Ln := 12) (by omega) rfl M17.2.1.1 (by decide) (by decide) (by decide) (by decide) (by omega) r17, ?_⟩
  rintro v29 μ28 ⟨F28, q28⟩ x2 rfl _ rfl
  rw [tnR_cong (g := δ.2.1.2.1) (fun k hk => (M17.2.1.2 k hk).1)] at q28
  have M28 : dfM μ28 δ := M17.w F28
  have FF : rwF μ μ28 := (F9.tr N17.w).tr F28
  obtain ⟨Y, hY⟩ : ∃ Y, tnR lg tb L δ.2.1.2.1 δ.2.1.1 (nxP lg tb L q) = Y := ⟨_, rfl⟩
  rw [hY] at q28
  rcases Y with ⟨k, q1⟩ | ⟨m, q1⟩
  · have f28 : flM μ28 k q1 := q28
    refine ⟨fun _ => plan_1b (by omega) f28.nz ⟨FF.m, FF.2.1 18 (by omega), ?_⟩, fun z => absurd z f28.nz⟩
    rw [bnd_l hY]
    exact f28
  obtain ⟨ev, r28⟩ := q28
  rw [bnd_r hY]
  obtain ⟨rfl, j2, hj2, en⟩ := tnR_inr hY
  subst ev
  have ei : ((30 : Int32) + ((6 : Int32) * x1)) + x2 = nI (30 + (j1 * 6 + j2)) := by rw [em, en, show (6 : Int32) = nI 6 from rfl, show (30 : Int32) = nI 30 from rfl, pk_mul, nI_add, nI_add, show 30 + 6 * j1 + j2 = 30 + (j1 * 6 + j2) by omega]
  have ej : ix x1 * 6 + ix x2 = j1 * 6 + j2 := by rw [ix_eq em (by omega), ix_eq en (by omega)]
  rw [ei, ej]
  refine ⟨fun z => absurd r28.2.1 z, fun _ => ⟨30 + (j1 * 6 + j2), by omega, rfl, ?_⟩⟩
  rw [M28.2.2.1.2 (j1 * 6 + j2) (by omega), le_0 (hR.2.2.1 (j1 * 6 + j2) (by omega)).1]
  refine ⟨fun z0 => ?_, fun z0 => ⟨0, _, by omega, w_wrong (x := 3) (by decide) r28, ?_⟩⟩
  · rw [if_pos z0]
    refine bl_X10_planLine_1 (by decide) ⟨3, _, by omega, l_goOn (by omega) hWd r28, ?_⟩
    rintro μ5 ⟨N5, r5⟩
    refine ⟨3, _, by omega, c_X10_numeral (lo := 1) (hi := 9) (by omega) hWd rfl rfl (by omega) (by omega) r5, ?_⟩
    rintro v13 μ12 ⟨F12, q12⟩ x4 rfl
    have q12 : rsM lg tb L (nuR lg tb L 1 9 (nxP lg tb L (nxP lg tb L q))) x4 μ12 := q12
    have FF2 : rwF μ μ12 := (FF.tr N5.w).tr F12
    have M12 : dfM μ12 δ := hM.w FF2
    obtain ⟨U, hU⟩ : ∃ U, nuR lg tb L 1 9 (nxP lg tb L (nxP lg tb L q)) = U := ⟨_, rfl⟩
    rw [hU] at q12
    rcases U with ⟨k, q2⟩ | ⟨a, q2⟩
    · have f12 : flM μ12 k q2 := q12
      refine ⟨fun z => absurd z f12.nz, fun _ => ⟨FF2.m, FF2.2.1 18 (by omega), ?_⟩⟩
      rw [bnd_l hU]
      exact f12
    obtain ⟨ev, r12⟩ := q12
    rw [bnd_r hU]
    refine ⟨fun _ => ⟨30 + (j1 * 6 + j2), by omega, rfl, ?_⟩, fun z => absurd r12.2.1 z⟩
    rintro μ18 e18
    refine ⟨by omega, by omega, ?_⟩
    rw [show μ18.1 707 0 12 = nI δ.2.2.1.1 by rw [e18, gsI_off (by omega)]; exact M12.2.2.1.1, nI_1]
    rintro μ25 e25
    have G25 : lmF μ μ25 := by rw [e25, e18]; exact (FF2.m.p (by omega) (by rw [show hf 716 = 30 from rfl]; omega)).p (by omega) (by rw [show hf 707 = 10 from rfl]; omega)
    refine ⟨G25, by rw [e25, gsI_off (by omega), e18, gsI_off (by omega), FF2.2.1 18 (by omega)], r12.of (fun j _ => by rw [e25, gsI_off (by omega), e18, gsI_off (by omega)]) (by rw [e25, gsI_off (by omega), e18, gsI_off (by omega)]), ?_⟩
    rw [← ev, e25, e18]
    exact M12.plan
  · rw [if_neg z0]
    rintro μ40 ⟨F40, f40⟩
    exact plan_1b (by omega) f40.nz ⟨(FF.tr F40).m, (FF.tr F40).2.1 18 (by omega), f40⟩
theorem wcase (h : atM lg tb L p μ) : (∃ j, j < 21 ∧ tkK lg tb L p = nI j ∧ μ.1 10 0 22 = 0 ∧ μ.1 10 0 23 = nI j) ∨ (¬ μ.1 10 0 22 = 0 ∧ ∀ j, j < 21 → ¬ tkK lg tb L p = nI j) := by
  have h22 : μ.1 10 0 22 = sortK (tkK lg tb L p) := h.2.2.1
  have so : ∀ i, 21 ≤ i → i < 38 → ¬ sortK (nI i) = 0 := by
    have : ∀ i, i < 38 → 21 ≤ i → ¬ sortK (nI i) = 0 := by decide
    exact fun i a b => this i b a
  have no : ∀ i, 21 ≤ i → i < 38 → tkK lg tb L p = nI i → ¬ μ.1 10 0 22 = 0 ∧ ∀ j, j < 21 → ¬ tkK lg tb L p = nI j := by
    intro i a b e
    refine ⟨by rw [h22, e]; exact so i a b, fun j hj w => ?_⟩
    have := (nI_eq (by omega) (by omega)).mp (e.symm.trans w)
    omega
  rcases tk_val (lg := lg) (tb := tb) (L := L) (p := p) with ⟨i, hi, e, -⟩ | ⟨i, h1, h2, e, -⟩ | e | e | e | e
  · exact Or.inl ⟨i, hi, e, (isW h i hi).mpr e⟩
  · exact Or.inr (no i h1 (by omega) e)
  · exact Or.inr (no 34 (by omega) (by omega) e)
  · exact Or.inr (no 35 (by omega) (by omega) e)
  · exact Or.inr (no 36 (by omega) (by omega) e)
  · exact Or.inr (no 37 (by omega) (by omega) e)
theorem law_3b {x1 : Int32} {q : gMem → Prop} (h : ¬ μ.1 10 0 24 = 0) (hq : q μ) : pt_X10_lawLine_3 l D d q Γ 0 x1 μ := bl_X10_lawLine_3 (by decide) ⟨fun z => absurd z h, fun _ => hq⟩
theorem law_2b {q : gMem → Prop} (h : ¬ μ.1 10 0 24 = 0) (hq : q μ) : pt_X10_lawLine_2 l D d q Γ 0 μ := by
  refine bl_X10_lawLine_2 (by decide) ?_
  rintro x1 -
  exact ⟨fun _ => law_3b h hq, fun z => absurd z h⟩
theorem stop_1 {k : Int32} {b nm : Bool} (h : stopP 1 k b) : ¬ canP false nm b 0 k := by
  obtain ⟨s1, s2, s3, s4, s5⟩ := h
  intro z
  rcases z with ⟨a, -⟩ | ⟨-, a | ⟨-, a | a | a | a⟩⟩
  · exact absurd a (by decide)
  · exact absurd a.2 (by omega)
  · exact s5 (by omega) a
  · exact s4 (by omega) a
  · have h1 := a.1
    have h2 := a.2
    by_cases hh : k.toInt ≤ 28
    · exact s2 (by omega) ⟨h1, hh⟩
    · exact s1 (by omega) ⟨by omega, h2⟩
  · rw [s3 (by omega) a.1] at a
    exact absurd a.2 (by decide)
theorem c_X10_lawLine (hd : 652 ≤ d) (hWd : WordC l D lg) (hO : okD δ) (h : rlM lg tb L μ p) (hM : dfM μ δ) : Ctr l D d yX10_lawLine cX10_lawLine 2 none [.ref (D.2.2 10 0)] μ (pV (fun μ' => lmF μ μ' ∧ μ'.1 10 0 18 = μ.1 10 0 18 ∧ lnH lg tb L p (lnL1 lg tb L δ p) μ')) := by
  have hat := h.2.2.2
  obtain ⟨⟨hB1, hB2, hB3, hB4, hB5⟩, hR, hL⟩ := hO
  refine en_X10_lawLine (fun Γ => bl_X10_lawLine_0 (by decide) ?_)
  unfold lnL1
  have bad : ¬ inR (tkK lg tb L p) 8 10 → pt_X10_lawLine_1 l D d (fun μ' => lmF μ μ' ∧ μ'.1 10 0 18 = μ.1 10 0 18 ∧ lnH lg tb L p (if inR (tkK lg tb L p) 8 10 then (if δ.2.2.2.2.1.2.2.1 (ix (tkK lg tb L p) - 8) < δ.2.2.2.2.1.2.2.2 (ix (tkK lg tb L p) - 8) then .inl (3, p) else lwR lg tb L (ix (tkK lg tb L p) - 8) δ (nxP lg tb L p)) else .inl (1, p)) μ') Γ 0 μ := by
    intro z
    refine bl_X10_lawLine_1 (by decide) ⟨0, _, by omega, w_wrong (x := 1) (by decide) h, ?_⟩
    rintro μ5 ⟨F5, f5⟩
    refine law_2b f5.nz ⟨F5.m, F5.2.1 18 (by omega), ?_⟩
    rw [if_neg z]
    exact f5
  rcases wcase hat with ⟨j, hj, ek, e22, e23⟩ | ⟨n22, nk⟩
  · have hin : inR (tkK lg tb L p) 8 10 ↔ 8 ≤ j ∧ j ≤ 10 := by
      unfold inR
      rw [ek, nI_toInt (by omega)]
      omega
    rw [e23, show (8 : Int32) = nI 8 from rfl, show (10 : Int32) = nI 10 from rfl, nI_ltI (by omega) (by omega), nI_leI (by omega) (by omega)]
    refine ⟨fun z => absurd e22 z, fun _ => ⟨fun z => bad (by omega), fun z => ⟨fun z2 => ?_, fun z2 => bad (by omega)⟩⟩⟩
    obtain ⟨r, rfl⟩ : ∃ r, j = 8 + r := ⟨j - 8, by omega⟩
    have hr : r < 3 := by omega
    rw [if_pos (hin.mpr ⟨by omega, by omega⟩), ek, ix_eq rfl (by omega), show 8 + r - 8 = r by omega]
    obtain ⟨m1, m2, m3, m4, ⟨m5, m6, m7, m8, m9⟩, B, hBB, eB, b1, b2⟩ := hM
    refine bl_X10_lawLine_2 (by decide) ?_
    rw [e23, show (8 : Int32) = nI 8 from rfl, pk_sub (by omega), show 8 + r - 8 = r by omega]
    rintro _ rfl
    refine ⟨fun z => absurd h.2.1 z, fun _ => ?_⟩
    rw [eB, show (16 : Int32) + nI r = nI (16 + r) from nI_add 16 r, bt_is hBB (by omega), b2 r hr, decide_eq_true_iff]
    refine ⟨fun z => ?_, fun z => ⟨0, _, by omega, w_wrong (x := 3) (by decide) h, ?_⟩⟩
    · rw [if_neg z]
      refine bl_X10_lawLine_3 (by decide) ⟨fun _ => ?_, fun z => absurd h.2.1 z⟩
      obtain ⟨u1, u2⟩ := bt_up (w := 16 + r) hBB (by omega)
      rw [eB, show (16 : Int32) + nI r = nI (16 + r) from nI_add 16 r, u1]
      rintro μ2 e2
      have o2 : ∀ j, ¬ j = 17 → μ2.1 10 0 j = μ.1 10 0 j := fun j hj => by rw [e2, gsI_at, if_neg (by omega)]
      have p2 : ∀ k, ¬ k = 10 → μ2.1 k 0 = μ.1 k 0 := fun k hk => by rw [e2, gsI_off (by omega)]
      have r2 : rlM lg tb L μ2 p := h.of (fun j hj => o2 j (by omega)) (p2 705 (by omega))
      have G2 : lmF μ μ2 := by rw [e2]; exact lmF.rf.p10 (by omega)
      have s17 : μ2.1 10 0 17 = nI (B ||| 2 ^ (16 + r)) := by rw [e2, gsI_s]
      clear e2
      refine ⟨2, _, by omega, c_token (by omega) hWd r2.1 r2.2.2.1 r2.2.2.2, ?_⟩
      rintro μ7 ⟨N7, a7⟩
      have r7 : rlM lg tb L μ7 (nxP lg tb L p) := r2.tk N7 a7
      have p7 : ∀ k, ¬ k = 10 → μ7.1 k 0 = μ.1 k 0 := fun k hk => by rw [N7.1 k 0 (by omega), p2 k hk]
      have o7 : ∀ j, ¬ j = 17 → ¬ (20 ≤ j ∧ j ≤ 23) → μ7.1 10 0 j = μ.1 10 0 j := fun j hj h2 => by rw [N7.2.1 j h2, o2 j hj]
      have t17 : μ7.1 10 0 17 = nI (B ||| 2 ^ (16 + r)) := by rw [N7.2.1 17 (by omega)]; exact s17
      refine ⟨by omega, 3 + r, by omega, nI_add 3 r, ?_⟩
      rw [p7 707 (by omega), m5]
      rintro μ15 e15
      have p15 : ∀ k, ¬ k = 717 → μ15.1 k 0 = μ7.1 k 0 := fun k hk => by rw [e15, gsI_off (by omega)]
      have s15 : μ15.1 717 0 (3 + r) = nI δ.2.2.2.2.1.2.1 := by rw [e15, gsI_s]
      have t15 : ∀ z, ¬ z = 3 + r → μ15.1 717 0 z = μ.1 717 0 z := fun z hz => by rw [e15, gsI_at, if_neg (by omega), p7 717 (by omega)]
      have G15 : lmF μ μ15 := by rw [e15]; exact (G2.tr N7.w.m).p (by omega) (by rw [show hf 717 = 3 from rfl]; omega)
      clear e15
      have r15 : rlM lg tb L μ15 (nxP lg tb L p) := r7.of (fun j _ => by rw [p15 10 (by omega)]) (p15 705 (by omega))
      have k15 : rmM lg tb L μ15 (nxP lg tb L p) (δ.2.2.2.2.1.1, δ.2.2.2.2.1.2.1) 0 δ.2.2.2.2.1.2.1 := by
        refine ⟨r15.1, r15.2.1, r15.2.2.2, ?_, ?_, ?_, fun i hi => ?_⟩
        · rw [p15 10 (by omega), o7 28 (by omega) (by omega)]; exact m8
        · rw [p15 10 (by omega), o7 29 (by omega) (by omega)]; exact m9
        · rw [p15 707 (by omega), p7 707 (by omega)]; exact m5
        · rw [p15 719 (by omega), p7 719 (by omega), p15 720 (by omega), p7 720 (by omega)]; exact m6 i hi
      refine ⟨651, _, by omega, lv_all hWd 8 0 rfl μ15 (nxP lg tb L p) [] (fun _ => false) true δ.2.2.2.2.1.1 δ.2.2.2.2.1.2.1 δ.2.2.2.2.1.2.1 (Nat.zero_le _) k15 ⟨rfl, hB4, rfl, by omega, fun k hk => absurd hk List.not_mem_nil⟩ r15.2.2.1 ⟨fun k W' e => (by cases e), fun _ => ⟨rfl, rfl⟩, fun w => absurd w (by omega)⟩, ?_⟩
      rintro μ20 ⟨F20, hQ⟩
      have h700 := h.1.2.1
      refine ⟨by omega, 3 + r, by omega, nI_add 3 r, ?_⟩
      rintro μ28 e28
      have p28 : ∀ k, ¬ k = 718 → μ28.1 k 0 = μ20.1 k 0 := fun k hk => by rw [e28, gsI_off (by omega)]
      have s28 : μ28.1 718 0 (3 + r) = μ20.1 707 0 19 := by rw [e28, gsI_s]
      have t28 : ∀ z, ¬ z = 3 + r → μ28.1 718 0 z = μ.1 718 0 z := fun z hz => by rw [e28, gsI_at, if_neg (by omega), F20.1 718 0 (by omega), p15 718 (by omega), p7 718 (by omega)]
      have G28 : lmF μ μ28 := by rw [e28]; exact (G15.tr F20.m).p (by omega) (by rw [show hf 718 = 3 from rfl]; omega)
      have g28 : μ28.1 10 0 18 = μ.1 10 0 18 := by rw [p28 10 (by omega), F20.2.1 18 (by omega) (by omega) (by omega), p15 10 (by omega), o7 18 (by omega) (by omega)]
      clear e28
      refine ⟨G28, g28, ?_⟩
      rcases hQ with ⟨k, p', f20, hs⟩ | ⟨p', P, cm', nm', c', f', n', c1, c2, c3, c4, c5, c6, c7, c8, c9, c10, c11⟩
      · have eR : lwR lg tb L r δ (nxP lg tb L p) = .inl (k, p') := by unfold lwR; rw [hs 701 (by omega)]
        rw [eR]
        exact f20.of (fun j _ => by rw [p28 10 (by omega)])
      · obtain ⟨m', hm', e'⟩ := c11 701 (by omega)
        obtain ⟨m'', rfl⟩ : ∃ m'', m' = m'' + 1 := ⟨m' - 1, by omega⟩
        have hrel := rel_em (s := 1) (W := []) (fun k W' e => by cases e) P c' f' c2
        have hn' : (em P c' f').2 = n' := by
          have h1 := em_len P c' f'
          have h2 := cn_len P
          obtain ⟨h3, -, h4, -⟩ := c3
          rw [List.append_nil] at h3 h4
          omega
        have h64 := c3.2.1
        have eR : lwR lg tb L r δ (nxP lg tb L p) = .inr ((δ.1, δ.2.1, δ.2.2.1, δ.2.2.2.1, ((em P c' f').1, (em P c' f').2, upQ δ.2.2.2.2.1.2.2.1 r δ.2.2.2.2.1.2.1, upQ δ.2.2.2.2.1.2.2.2 r (em P c' f').2), δ.2.2.2.2.2), p') := by
          unfold lwR
          rw [e', syR, if_pos (stop_1 c5), if_neg (by rintro (w | w); exact absurd w (by decide); exact absurd w (by omega)), hrel]
        rw [eR]
        have := nxP_ge (lg := lg) (tb := tb) (L := L) p
        obtain ⟨d1, d2, d3, d4, d5, d6, d7⟩ := c1
        have pk : ∀ k, ¬ k = 718 → ¬ k = 10 → ¬ k = 707 → ¬ k = 719 → ¬ k = 720 → ¬ k = 717 → μ28.1 k 0 = μ.1 k 0 := fun k a1 a2 a3 a4 a5 a6 => by rw [p28 k a1, F20.1 k 0 (by omega), p15 k a6, p7 k a2]
        have p707 : ∀ j, ¬ j = 19 → μ28.1 707 0 j = μ.1 707 0 j := fun j hj => by rw [p28 707 (by omega), F20.2.2.1 j hj, p15 707 (by omega), p7 707 (by omega)]
        refine ⟨⟨⟨by rw [p28 10 (by omega)]; exact d1.1, d1.2.1, by rw [p28 705 (by omega)]; exact d1.2.2⟩, by rw [p28 10 (by omega)]; exact d2, c4.2, by unfold atM; rw [p28 10 (by omega)]; exact d3⟩, ?_, by have := c4.1; omega, ⟨hB1, hB2, hB3, ?_, fun z hz => ?_⟩, hR, fun z hz => ?_⟩
        · refine ⟨?_, ?_, ?_, fun j x y => ?_, ⟨by rw [p28 707 (by omega)]; exact d6, fun i hi => by rw [p28 719 (by omega), p28 720 (by omega)]; exact d7 i hi, fun z hz => ?_, by rw [p28 10 (by omega)]; exact d4, ?_⟩, B ||| 2 ^ (16 + r), u2, ?_, fun w w1 w2 => ?_, fun z hz => ?_⟩
          · rw [p707 10 (by omega), pk 708 (by omega) (by omega) (by omega) (by omega) (by omega) (by omega), pk 709 (by omega) (by omega) (by omega) (by omega) (by omega) (by omega), pk 710 (by omega) (by omega) (by omega) (by omega) (by omega) (by omega), pk 711 (by omega) (by omega) (by omega) (by omega) (by omega) (by omega)]; exact m1
          · rw [p707 11 (by omega), pk 712 (by omega) (by omega) (by omega) (by omega) (by omega) (by omega), pk 713 (by omega) (by omega) (by omega) (by omega) (by omega) (by omega), pk 714 (by omega) (by omega) (by omega) (by omega) (by omega) (by omega), pk 715 (by omega) (by omega) (by omega) (by omega) (by omega) (by omega)]; exact m2
          · rw [p707 12 (by omega), pk 716 (by omega) (by omega) (by omega) (by omega) (by omega) (by omega)]; exact m3
          · rw [p707 (10 + j) (by omega)]; exact m4 j x y
          · show μ28.1 717 0 (3 + z) = nI (if z = r then δ.2.2.2.2.1.2.1 else δ.2.2.2.2.1.2.2.1 z) ∧ μ28.1 718 0 (3 + z) = nI (if z = r then (em P c' f').2 else δ.2.2.2.2.1.2.2.2 z)
            rw [p28 717 (by omega), F20.1 717 0 (by omega)]
            by_cases ez : z = r
            · rw [if_pos ez, if_pos ez, ez, s28]; exact ⟨s15, d6⟩
            · rw [if_neg ez, if_neg ez, t15 _ (by omega), t28 _ (by omega)]; exact m7 z hz
          · rw [p28 10 (by omega), d5, ← hn']
          · rw [p28 10 (by omega), F20.2.1 17 (by omega) (by omega) (by omega), p15 10 (by omega)]; exact t17
          · rw [bt_at, b1 w w1 w2, decide_eq_false (show ¬ 16 + r = w by omega), Bool.or_false]
          · show _ = decide ((if z = r then δ.2.2.2.2.1.2.1 else δ.2.2.2.2.1.2.2.1 z) < (if z = r then (em P c' f').2 else δ.2.2.2.2.1.2.2.2 z))
            rw [bt_at, b2 z hz]
            by_cases ez : z = r
            · rw [if_pos ez, if_pos ez, decide_eq_true (show 16 + r = 16 + z by omega), Bool.or_true, decide_eq_true c8.1]
            · rw [if_neg ez, if_neg ez, decide_eq_false (show ¬ 16 + r = 16 + z by omega), Bool.or_false]
        · show (em P c' f').2 ≤ 64
          omega
        · show (if z = r then δ.2.2.2.2.1.2.1 else δ.2.2.2.2.1.2.2.1 z) ≤ (em P c' f').2 ∧ (if z = r then (em P c' f').2 else δ.2.2.2.2.1.2.2.2 z) ≤ (em P c' f').2
          have := hB5 z hz
          have := c8.1
          by_cases ez : z = r
          · rw [if_pos ez, if_pos ez]; omega
          · rw [if_neg ez, if_neg ez]; omega
        · show (if z = r then δ.2.2.2.2.1.2.1 else δ.2.2.2.2.1.2.2.1 z) ≤ (em P c' f').2 ∧ (if z = r then (em P c' f').2 else δ.2.2.2.2.1.2.2.2 z) ≤ (em P c' f').2 ∧ ((if z = r then δ.2.2.2.2.1.2.1 else δ.2.2.2.2.1.2.2.1 z) < (if z = r then (em P c' f').2 else δ.2.2.2.2.1.2.2.2 z) → dpn (em P c' f').1 ((if z = r then (em P c' f').2 else δ.2.2.2.2.1.2.2.2 z) - (if z = r then δ.2.2.2.2.1.2.1 else δ.2.2.2.2.1.2.2.1 z)) (if z = r then δ.2.2.2.2.1.2.1 else δ.2.2.2.2.1.2.2.1 z) 0 = some 1)
          have q8 := c8.1
          obtain ⟨l1, l2, l3⟩ := hL z hz
          by_cases ez : z = r
          · rw [if_pos ez, if_pos ez]; exact ⟨by omega, by omega, fun _ => c9 0⟩
          · rw [if_neg ez, if_neg ez]
            refine ⟨by omega, by omega, fun w => ?_⟩
            rw [dpn_cong (c' := δ.2.2.2.2.1.1) _ _ _ (fun j x y => c8.2 j (by omega))]
            exact l3 w
    · rw [if_pos z]
      rintro μ8 ⟨F8, f8⟩
      exact law_3b f8.nz ⟨F8.m, F8.2.1 18 (by omega), f8⟩
  · have nin : ¬ inR (tkK lg tb L p) 8 10 := by
      intro z
      have z1 := z.1
      have z2 := z.2
      have e8 := ix_nI (x := tkK lg tb L p) (by omega)
      exact nk (ix (tkK lg tb L p)) (by unfold ix; omega) e8
    exact ⟨fun _ => bad nin, fun z => absurd z n22⟩
end MP
