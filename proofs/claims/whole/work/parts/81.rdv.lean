/-! product, sum, conjunction, expression -/
theorem i2_eq {k : Int32} {a : Int} {x y : Int32} (hx : x.toInt = a) (hy : y.toInt = a + 1) : inR k a (a + 1) ↔ k = x ∨ k = y := by
  constructor
  · intro h
    have h1 := h.1
    have h2 := h.2
    by_cases e : k.toInt = a
    · exact Or.inl (Int32.toInt_inj.mp (by omega))
    · exact Or.inr (Int32.toInt_inj.mp (by omega))
  · rintro (rfl | rfl)
    · exact ⟨by omega, by omega⟩
    · exact ⟨by omega, by omega⟩
section RV
variable {l : Launch} {D : gD} {d : Nat} {lg : Nat → Int32} {tb : Nat → Nat} {L : Nat} {p o n : Nat} {c : cdT} {f : Nat} {W : List Int32} {cm : Nat → Bool} {nm : Bool} {s s' t t' : Nat} {p1 f1 n1 : Nat} {P1 : List Int32} {cm1 : Nat → Bool} {nm1 : Bool} {c1 : cdT} {μ1 : gMem}
theorem rdOk.wk (h : rdOk lg tb L s t W cm o p nm c f n μ1 p1 P1 cm1 nm1 c1 f1 n1) (hs : s' ≤ s) (ht : stopP t' (tkK lg tb L p1) (cm1 o)) : rdOk lg tb L s' t' W cm o p nm c f n μ1 p1 P1 cm1 nm1 c1 f1 n1 := by
  obtain ⟨a1, a2, a3, a4, a5, a6, a7, a8, a9, a10, a11⟩ := h
  exact ⟨a1, fun k hk => Nat.le_trans hs (a2 k hk), a3, a4, ht, a6, fun z => a7 (by omega), a8, a9, a10, a11⟩
theorem rdBad.nz {μ' : gMem} (h : rdBad lg tb L W cm o p nm c f n μ') : ¬ μ'.1 10 0 24 = 0 := by
  obtain ⟨x, p', fl, -⟩ := h
  rw [fl.2.1]
  exact fl.1
theorem bSg {cf : cdT × Nat} (h : rmM lg tb L μ1 p1 cf o n1) (j : Nat) (h21 : 21 ≤ j) (hj : j ≤ 33) {x : Int32} (hx : x = sgV (nI j)) : bI (μ1.1 10 0 24 = 0 ∧ μ1.1 10 0 22 = (3 : Int32) ∧ μ1.1 10 0 23 = x) = 0 ↔ ¬ tkK lg tb L p1 = nI j := by
  rw [← isS h.2.2.1 j h21 hj hx, bI]
  split
  · rename_i w; exact ⟨fun z => absurd z (by decide), fun z => absurd w.2 z⟩
  · rename_i w; exact ⟨fun _ z => w ⟨h.2.1, z⟩, fun _ => rfl⟩
theorem bWd {cf : cdT × Nat} (h : rmM lg tb L μ1 p1 cf o n1) (j : Nat) (hj : j < 21) : bI (μ1.1 10 0 24 = 0 ∧ μ1.1 10 0 22 = 0 ∧ μ1.1 10 0 23 = nI j) = 0 ↔ ¬ tkK lg tb L p1 = nI j := by
  rw [← isW h.2.2.1 j hj, bI]
  split
  · rename_i w; exact ⟨fun z => absurd z (by decide), fun z => absurd w.2 z⟩
  · rename_i w; exact ⟨fun _ z => w ⟨h.2.1, z⟩, fun _ => rfl⟩
theorem vSg {cf : cdT × Nat} (h : rmM lg tb L μ1 p1 cf o n1) (j : Nat) (h21 : 21 ≤ j) (hj : j ≤ 33) (hk : tkK lg tb L p1 = nI j) : μ1.1 10 0 23 = sgV (nI j) := ((isS h.2.2.1 j h21 hj rfl).mpr hk).2
theorem lv_product {dP : Nat} (hd : 4 ≤ d) (hdP : dP < d) (hWd : WordC l D lg) (hP : lvC l D lg tb L yX10_primary cX10_primary 2 7 o 0 dP) : lvC l D lg tb L yX10_product cX10_product 2 6 o 0 d := by
  intro μ p W cm nm c f n _ hr hK hp hpre
  have e29 : (29 : Int32).toInt = 29 := by decide
  have e30 : (30 : Int32).toInt = 29 + 1 := by decide
  refine en_X10_product (fun Γ => ?_)
  have bad : ∀ μ', rdF μ μ' → ¬ μ'.1 10 0 24 = 0 → rdBad lg tb L W cm o p nm c f n μ' → pt_X10_product_1 l D d (rdQ lg tb L 6 W cm o p nm c f n μ) Γ 0 μ' := fun μ' F nz b => bl_X10_product_1 (by decide) ⟨by omega, fun z => absurd (nfb nz) z, fun _ => ⟨by omega, fun _ => ⟨F, Or.inl b⟩, fun z => absurd (nfb nz) z⟩⟩
  have loop : ∀ (cc p1 : Nat) (P1 : List Int32) (cm1 : Nat → Bool) (nm1 : Bool) (c1 : cdT) (f1 n1 : Nat) (μ1 : gMem), L ≤ p1 + cc → rdF μ μ1 → rdOk lg tb L 6 7 W cm o p nm c f n μ1 p1 P1 cm1 nm1 c1 f1 n1 → pt_X10_product_1 l D d (rdQ lg tb L 6 W cm o p nm c f n μ) Γ 0 μ1 := by
    intro cc
    induction cc with
    | zero =>
      intro p1 P1 cm1 nm1 c1 f1 n1 μ1 hc F1 h
      have ek := tkK_end (lg := lg) (tb := tb) (L := L) (p := p1) (by omega)
      refine bl_X10_product_1 (by decide) ⟨by omega, fun z => absurd ((bSg h.1 29 (by omega) (by omega) (by decide)).mpr (by rw [ek]; decide)) z, fun _ => ⟨by omega, fun _ => ⟨F1, Or.inr ⟨p1, P1, cm1, nm1, c1, f1, n1, h.wk (Nat.le_refl _) ?_⟩⟩, fun z => absurd ((bSg h.1 30 (by omega) (by omega) (by decide)).mpr (by rw [ek]; decide)) z⟩⟩
      rw [ek]
      exact ⟨fun _ => by decide, fun z => by omega, fun z => by omega, fun z => by omega, fun z => by omega⟩
    | succ cc ih =>
      intro p1 P1 cm1 nm1 c1 f1 n1 μ1 hc F1 h
      have go : ∀ j, 29 ≤ j → j ≤ 30 → tkK lg tb L p1 = nI j → pt_X10_product_2 l D d (rdQ lg tb L 6 W cm o p nm c f n μ) Γ 0 μ1 := by
        intro j j1 j2 ej
        refine bl_X10_product_2 (by decide) ?_
        rintro x1 ex
        have hin : inR (nI j) 27 30 := by
          unfold inR
          rw [nI_toInt (by omega)]
          omega
        have es : str (nI j) = 6 := by
          have : ∀ i, i < 31 → 29 ≤ i → str (nI i) = 6 := by decide
          exact this j (by omega) j1
        have en : ¬ inR (nI j) 21 26 := by
          unfold inR
          rw [nI_toInt (by omega)]
          omega
        refine rd_body (s := 6) (s2 := 7) (k := nI j) (NEXT := fun μ27 => pt_X10_product_1 l D d (rdQ lg tb L 6 W cm o p nm c f n μ) Γ 0 μ27) hd hdP hWd hP (fun μ hz => n_primary hz) F1 h ej (Or.inr (Or.inr (Or.inl hin))) (by omega) (by rw [es]; exact hpre.1) (by omega) (by omega) (fun _ => ⟨by rw [cmN, if_neg en, if_neg (by omega)], by omega, by omega⟩) ?_ ⟨?_, fun z => by omega, fun _ z => ?_⟩ (fun μ' p2 P2 cm2 nm2 c2 f2 n2 F2 hlt _ ok => ih p2 P2 cm2 nm2 c2 f2 n2 μ' (by omega) F2 ok) bad
        · rw [ex, vSg h.1 j (by omega) (by omega) ej]
          have : ∀ i, i < 31 → 29 ≤ i → sgV (nI i) = sgk (nI i) := by decide
          exact this j (by omega) j1
        · intro k W' e
          have := str_le k
          rw [if_neg (by omega)]
          omega
        · rw [es] at z
          exact absurd z (by decide)
      refine bl_X10_product_1 (by decide) ⟨by omega, fun z => go 29 (by omega) (by omega) (Decidable.not_not.mp (fun w => z ((bSg h.1 29 (by omega) (by omega) (by decide)).mpr w))), fun z => ⟨by omega, fun z2 => ⟨F1, Or.inr ⟨p1, P1, cm1, nm1, c1, f1, n1, h.wk (Nat.le_refl _) ?_⟩⟩, fun z2 => go 30 (by omega) (by omega) (Decidable.not_not.mp (fun w => z2 ((bSg h.1 30 (by omega) (by omega) (by decide)).mpr w)))⟩⟩
      have m1 := (bSg h.1 29 (by omega) (by omega) (by decide)).mp z
      have m2 := (bSg h.1 30 (by omega) (by omega) (by decide)).mp z2
      refine ⟨fun _ w => ?_, fun z => by omega, fun z => by omega, fun z => by omega, fun z => by omega⟩
      rcases (i2_eq e29 e30).mp w with w | w
      · exact m1 w
      · exact m2 w
  refine bl_X10_product_0 (by decide) ⟨dP, _, hdP, hP μ p W cm nm c f n (Nat.zero_le _) hr hK hp ⟨?_, fun z => by omega, fun _ => hpre.2.2 (by omega)⟩, ?_⟩
  · intro k W' e
    have := str_le k
    rw [if_neg (by omega)]
    omega
  · rintro μ1 ⟨F1, b | ⟨p1, P1, cm1, nm1, c1, f1, n1, ok⟩⟩
    · exact bad μ1 F1 b.nz b
    · exact loop L p1 P1 cm1 nm1 c1 f1 n1 μ1 (by omega) F1 (ok.wk (by omega) ok.2.2.2.2.1)
theorem lv_sum {dP : Nat} (hd : 4 ≤ d) (hdP : dP < d) (hd1 : 1 ≤ dP) (hWd : WordC l D lg) (hP : lvC l D lg tb L yX10_product cX10_product 2 6 o 0 dP) : lvC l D lg tb L yX10_sum cX10_sum 2 5 o 0 d := by
  intro μ p W cm nm c f n _ hr hK hp hpre
  have e27 : (27 : Int32).toInt = 27 := by decide
  have e28 : (28 : Int32).toInt = 27 + 1 := by decide
  refine en_X10_sum (fun Γ => ?_)
  have bad : ∀ μ', rdF μ μ' → ¬ μ'.1 10 0 24 = 0 → rdBad lg tb L W cm o p nm c f n μ' → pt_X10_sum_1 l D d (rdQ lg tb L 5 W cm o p nm c f n μ) Γ 0 μ' := fun μ' F nz b => bl_X10_sum_1 (by decide) ⟨by omega, fun z => absurd (nfb nz) z, fun _ => ⟨by omega, fun _ => ⟨F, Or.inl b⟩, fun z => absurd (nfb nz) z⟩⟩
  have loop : ∀ (cc p1 : Nat) (P1 : List Int32) (cm1 : Nat → Bool) (nm1 : Bool) (c1 : cdT) (f1 n1 : Nat) (μ1 : gMem), L ≤ p1 + cc → rdF μ μ1 → rdOk lg tb L 5 6 W cm o p nm c f n μ1 p1 P1 cm1 nm1 c1 f1 n1 → pt_X10_sum_1 l D d (rdQ lg tb L 5 W cm o p nm c f n μ) Γ 0 μ1 := by
    intro cc
    induction cc with
    | zero =>
      intro p1 P1 cm1 nm1 c1 f1 n1 μ1 hc F1 h
      have ek := tkK_end (lg := lg) (tb := tb) (L := L) (p := p1) (by omega)
      refine bl_X10_sum_1 (by decide) ⟨by omega, fun z => absurd ((bSg h.1 27 (by omega) (by omega) (by decide)).mpr (by rw [ek]; decide)) z, fun _ => ⟨by omega, fun _ => ⟨F1, Or.inr ⟨p1, P1, cm1, nm1, c1, f1, n1, h.wk (Nat.le_refl _) ?_⟩⟩, fun z => absurd ((bSg h.1 28 (by omega) (by omega) (by decide)).mpr (by rw [ek]; decide)) z⟩⟩
      rw [ek]
      exact ⟨fun _ => by decide, fun _ => by decide, fun z => by omega, fun z => by omega, fun z => by omega⟩
    | succ cc ih =>
      intro p1 P1 cm1 nm1 c1 f1 n1 μ1 hc F1 h
      have go : ∀ j, 27 ≤ j → j ≤ 28 → tkK lg tb L p1 = nI j → pt_X10_sum_2 l D d (rdQ lg tb L 5 W cm o p nm c f n μ) Γ 0 μ1 := by
        intro j j1 j2 ej
        refine bl_X10_sum_2 (by decide) ?_
        rintro x1 ex
        have hin : inR (nI j) 27 30 := by
          unfold inR
          rw [nI_toInt (by omega)]
          omega
        have es : str (nI j) = 5 := by
          have : ∀ i, i < 29 → 27 ≤ i → str (nI i) = 5 := by decide
          exact this j (by omega) j1
        have en : ¬ inR (nI j) 21 26 := by
          unfold inR
          rw [nI_toInt (by omega)]
          omega
        refine rd_body (s := 5) (s2 := 6) (k := nI j) (NEXT := fun μ27 => pt_X10_sum_1 l D d (rdQ lg tb L 5 W cm o p nm c f n μ) Γ 0 μ27) hd hdP hWd hP (fun μ hz => n_product hd1 hz) F1 h ej (Or.inr (Or.inr (Or.inl hin))) (by omega) (by rw [es]; exact hpre.1) (by omega) (by omega) (fun _ => ⟨by rw [cmN, if_neg en, if_neg (by omega)], by omega, by omega⟩) ?_ ⟨?_, fun z => by omega, fun _ z => ?_⟩ (fun μ' p2 P2 cm2 nm2 c2 f2 n2 F2 hlt _ ok => ih p2 P2 cm2 nm2 c2 f2 n2 μ' (by omega) F2 ok) bad
        · rw [ex, vSg h.1 j (by omega) (by omega) ej]
          have : ∀ i, i < 29 → 27 ≤ i → sgV (nI i) = sgk (nI i) := by decide
          exact this j (by omega) j1
        · intro k W' e
          obtain ⟨rfl, -⟩ := List.cons.inj e
          rw [if_neg (by omega), es]
          omega
        · rw [es] at z
          exact absurd z (by decide)
      refine bl_X10_sum_1 (by decide) ⟨by omega, fun z => go 27 (by omega) (by omega) (Decidable.not_not.mp (fun w => z ((bSg h.1 27 (by omega) (by omega) (by decide)).mpr w))), fun z => ⟨by omega, fun z2 => ⟨F1, Or.inr ⟨p1, P1, cm1, nm1, c1, f1, n1, h.wk (Nat.le_refl _) ?_⟩⟩, fun z2 => go 28 (by omega) (by omega) (Decidable.not_not.mp (fun w => z2 ((bSg h.1 28 (by omega) (by omega) (by decide)).mpr w)))⟩⟩
      have m1 := (bSg h.1 27 (by omega) (by omega) (by decide)).mp z
      have m2 := (bSg h.1 28 (by omega) (by omega) (by decide)).mp z2
      have st := h.2.2.2.2.1
      refine ⟨fun _ => st.1 (by omega), fun _ w => ?_, fun z => by omega, fun z => by omega, fun z => by omega⟩
      rcases (i2_eq e27 e28).mp w with w | w
      · exact m1 w
      · exact m2 w
  refine bl_X10_sum_0 (by decide) ⟨dP, _, hdP, hP μ p W cm nm c f n (Nat.zero_le _) hr hK hp ⟨?_, fun z => by omega, fun _ => hpre.2.2 (by omega)⟩, ?_⟩
  · intro k W' e
    have := hpre.1 k W' e
    rw [if_neg (by omega)] at this ⊢
    omega
  · rintro μ1 ⟨F1, b | ⟨p1, P1, cm1, nm1, c1, f1, n1, ok⟩⟩
    · exact bad μ1 F1 b.nz b
    · exact loop L p1 P1 cm1 nm1 c1 f1 n1 μ1 (by omega) F1 (ok.wk (by omega) ok.2.2.2.2.1)
theorem lv_conj {dP : Nat} (hd : 4 ≤ d) (hdP : dP < d) (hd3 : 3 ≤ dP) (hWd : WordC l D lg) (hP : lvC l D lg tb L yX10_negation cX10_negation 2 3 o 0 dP) : lvC l D lg tb L yX10_conjunction cX10_conjunction 1 2 o 0 d := by
  intro μ p W cm nm c f n _ hr hK hp hpre
  refine en_X10_conjunction (fun Γ => ?_)
  have bad : ∀ μ', rdF μ μ' → ¬ μ'.1 10 0 24 = 0 → rdBad lg tb L W cm o p nm c f n μ' → pt_X10_conjunction_1 l D d (rdQ lg tb L 2 W cm o p nm c f n μ) Γ 0 μ' := fun μ' F nz b => bl_X10_conjunction_1 (by decide) ⟨by omega, fun _ => ⟨F, Or.inl b⟩, fun z => absurd (nfb nz) z⟩
  have loop : ∀ (cc p1 : Nat) (P1 : List Int32) (cm1 : Nat → Bool) (nm1 : Bool) (c1 : cdT) (f1 n1 : Nat) (μ1 : gMem), L < p1 + cc → rdF μ μ1 → rdOk lg tb L 2 3 W cm o p nm c f n μ1 p1 P1 cm1 nm1 c1 f1 n1 → pt_X10_conjunction_1 l D d (rdQ lg tb L 2 W cm o p nm c f n μ) Γ 0 μ1 := by
    intro cc
    induction cc with
    | zero =>
      intro p1 P1 cm1 nm1 c1 f1 n1 μ1 hc F1 h
      have := h.2.2.2.1.2
      omega
    | succ cc ih =>
      intro p1 P1 cm1 nm1 c1 f1 n1 μ1 hc F1 h
      refine bl_X10_conjunction_1 (by decide) ⟨by omega, fun z => ⟨F1, Or.inr ⟨p1, P1, cm1, nm1, c1, f1, n1, h.wk (Nat.le_refl _) ?_⟩⟩, fun z => ?_⟩
      · have st := h.2.2.2.2.1
        exact ⟨fun _ => st.1 (by omega), fun _ => st.2.1 (by omega), fun _ => st.2.2.1 (by omega), fun _ => (bWd h.1 12 (by omega)).mp z, fun z => by omega⟩
      · have ej := Decidable.not_not.mp (fun w => z ((bWd h.1 12 (by omega)).mpr w))
        refine rd_body (s := 2) (s2 := 3) (k := nI 12) (NEXT := fun μ27 => pt_X10_conjunction_1 l D d (rdQ lg tb L 2 W cm o p nm c f n μ) Γ 0 μ27) hd hdP hWd hP (fun μ hz => n_negation hd3 hz) F1 h ej (Or.inr (Or.inl rfl)) (by decide) hpre.1 (by decide) (by omega) (fun z => by omega) (by decide) ⟨?_, fun _ => ⟨by decide, ?_⟩, fun z => by omega⟩ (fun μ' p2 P2 cm2 nm2 c2 f2 n2 F2 hlt _ ok => ih p2 P2 cm2 nm2 c2 f2 n2 μ' (by omega) F2 ok) bad
        · intro k W' e
          obtain ⟨rfl, -⟩ := List.cons.inj e
          decide
        · rw [cmN, if_neg (by decide), if_pos (by decide), upB, if_pos rfl]
  refine bl_X10_conjunction_0 (by decide) ⟨dP, _, hdP, hP μ p W cm nm c f n (Nat.zero_le _) hr hK hp ⟨?_, fun _ => hpre.2.1 (by omega), fun z => by omega⟩, ?_⟩
  · intro k W' e
    have := hpre.1 k W' e
    rw [if_neg (by omega)] at this
    rw [if_pos rfl]
    omega
  · rintro μ1 ⟨F1, b | ⟨p1, P1, cm1, nm1, c1, f1, n1, ok⟩⟩
    · exact bad μ1 F1 b.nz b
    · exact loop (L + 1) p1 P1 cm1 nm1 c1 f1 n1 μ1 (by omega) F1 (ok.wk (by omega) ok.2.2.2.2.1)
theorem lv_expr {dP : Nat} (hd : 4 ≤ d) (hdP : dP < d) (hd3 : 4 ≤ dP) (hWd : WordC l D lg) (hP : lvC l D lg tb L yX10_conjunction cX10_conjunction 1 2 o 0 dP) : lvC l D lg tb L yX10_expression cX10_expression 1 1 o 0 d := by
  intro μ p W cm nm c f n _ hr hK hp hpre
  refine en_X10_expression (fun Γ => ?_)
  have bad : ∀ μ', rdF μ μ' → ¬ μ'.1 10 0 24 = 0 → rdBad lg tb L W cm o p nm c f n μ' → pt_X10_expression_1 l D d (rdQ lg tb L 1 W cm o p nm c f n μ) Γ 0 μ' := fun μ' F nz b => bl_X10_expression_1 (by decide) ⟨by omega, fun _ => ⟨F, Or.inl b⟩, fun z => absurd (nfb nz) z⟩
  have loop : ∀ (cc p1 : Nat) (P1 : List Int32) (cm1 : Nat → Bool) (nm1 : Bool) (c1 : cdT) (f1 n1 : Nat) (μ1 : gMem), L < p1 + cc → rdF μ μ1 → rdOk lg tb L 1 2 W cm o p nm c f n μ1 p1 P1 cm1 nm1 c1 f1 n1 → pt_X10_expression_1 l D d (rdQ lg tb L 1 W cm o p nm c f n μ) Γ 0 μ1 := by
    intro cc
    induction cc with
    | zero =>
      intro p1 P1 cm1 nm1 c1 f1 n1 μ1 hc F1 h
      have := h.2.2.2.1.2
      omega
    | succ cc ih =>
      intro p1 P1 cm1 nm1 c1 f1 n1 μ1 hc F1 h
      refine bl_X10_expression_1 (by decide) ⟨by omega, fun z => ⟨F1, Or.inr ⟨p1, P1, cm1, nm1, c1, f1, n1, h.wk (Nat.le_refl _) ?_⟩⟩, fun z => ?_⟩
      · have st := h.2.2.2.2.1
        exact ⟨fun _ => st.1 (by omega), fun _ => st.2.1 (by omega), fun _ => st.2.2.1 (by omega), fun _ => st.2.2.2.1 (by omega), fun _ => (bWd h.1 11 (by omega)).mp z⟩
      · have ej := Decidable.not_not.mp (fun w => z ((bWd h.1 11 (by omega)).mpr w))
        refine rd_body (s := 1) (s2 := 2) (k := nI 11) (NEXT := fun μ27 => pt_X10_expression_1 l D d (rdQ lg tb L 1 W cm o p nm c f n μ) Γ 0 μ27) hd hdP hWd hP (fun μ hz => n_conjunction hd3 hz) F1 h ej (Or.inl rfl) (by decide) hpre.1 (by decide) (by omega) (fun z => by omega) (by decide) ⟨?_, fun _ => ⟨by decide, ?_⟩, fun z => by omega⟩ (fun μ' p2 P2 cm2 nm2 c2 f2 n2 F2 hlt _ ok => ih p2 P2 cm2 nm2 c2 f2 n2 μ' (by omega) F2 ok) bad
        · intro k W' e
          obtain ⟨rfl, -⟩ := List.cons.inj e
          decide
        · rw [cmN, if_neg (by decide), if_pos (by decide), upB, if_pos rfl]
  refine bl_X10_expression_0 (by decide) ⟨dP, _, hdP, hP μ p W cm nm c f n (Nat.zero_le _) hr hK hp ⟨?_, fun _ => hpre.2.1 (by omega), fun z => by omega⟩, ?_⟩
  · intro k W' e
    have := hpre.1 k W' e
    rw [if_neg (by omega)] at this ⊢
    omega
  · rintro μ1 ⟨F1, b | ⟨p1, P1, cm1, nm1, c1, f1, n1, ok⟩⟩
    · exact bad μ1 F1 b.nz b
    · exact loop (L + 1) p1 P1 cm1 nm1 c1 f1 n1 μ1 (by omega) F1 (ok.wk (by omega) ok.2.2.2.2.1)
end RV
