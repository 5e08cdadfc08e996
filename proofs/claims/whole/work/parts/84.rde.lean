/-! primary, and all levels -/
section RE
variable {l : Launch} {D : gD} {lg : Nat → Int32} {tb : Nat → Nat} {L : Nat}
theorem rmM.o28 {μ : gMem} {p o n o' : Nat} {cf : cdT × Nat} (h : rmM lg tb L μ p cf o n) : rmM lg tb L (gsI μ 10 0 28 (nI o')) p cf o' n ∧ rdF μ (gsI μ 10 0 28 (nI o')) := by
  obtain ⟨hT, h24, hat, h28, h29, h19, hc⟩ := h
  have g : ∀ j, ¬ j = 28 → (gsI μ 10 0 28 (nI o')).1 10 0 j = μ.1 10 0 j := fun j hj => by rw [gsI_at, if_neg (by omega)]
  have o3 : ∀ k j, ¬ (k = 10 ∧ j = 0) → (gsI μ 10 0 28 (nI o')).1 k j = μ.1 k j := fun k j hk => by rw [gsI_off (by omega)]
  refine ⟨⟨⟨by rw [g 19 (by omega)]; exact hT.1, hT.2.1, by rw [o3 705 0 (by omega)]; exact hT.2.2⟩, by rw [g 24 (by omega)]; exact h24, ?_, gsI_s, by rw [g 29 (by omega)]; exact h29, by rw [o3 707 0 (by omega)]; exact h19, by rw [o3 719 0 (by omega), o3 720 0 (by omega)]; exact hc⟩, rdF.rf.p10 (by omega)⟩
  unfold atM
  rw [g 20 (by omega), g 21 (by omega), g 22 (by omega), g 23 (by omega)]
  exact hat
theorem lv_primary {o d : Nat} (hd : 4 ≤ d) (hWd : WordC l D lg) (hE : o < 8 → ∃ dE, dE < d ∧ lvC l D lg tb L yX10_expression cX10_expression 1 1 (o + 1) 0 dE) : lvC l D lg tb L yX10_primary cX10_primary 2 7 o 0 d := by
  intro μ p W cm nm c f n _ hr hK hp hpre
  have h13 := hpre.2.2 (by omega)
  have hK0 := hK
  obtain ⟨k1, k2, k3, k4, k5⟩ := hK
  have h22 : μ.1 10 0 22 = sortK (tkK lg tb L p) := hr.2.2.1.2.2.1
  have h28 := hr.2.2.2.1
  refine en_X10_primary (fun Γ => bl_X10_primary_0 (by decide) ⟨fun _ => ⟨by omega, fun z => ?_, fun z => ?_⟩, fun z => absurd hr.2.1 z⟩)
  · have n31 : ¬ tkK lg tb L p = 31 := (bSg hr 31 (by omega) (by omega) (by decide)).mp z
    have five : ∀ x1 : Int32, ¬ isV (tkK lg tb L p) → pt_X10_primary_5 l D d (rdQ lg tb L 7 W cm o p nm c f n μ) Γ 0 x1 μ := by
      intro x1 nV
      refine bl_X10_primary_5 (by decide) ⟨0, _, by omega, k_wrong (x := 1) (by decide) hr, ?_⟩
      rintro μ5 ⟨F5, f5⟩
      refine p6_bad (by omega) F5 ⟨1, p, f5, fun m hm => ?_⟩
      obtain ⟨m2, rfl⟩ : ∃ m2, m = m2 + 1 := ⟨m - 1, by omega⟩
      rw [syR, if_pos (fun z => by
        rcases z with ⟨-, a | a | a⟩ | ⟨a, -⟩
        · exact nV a
        · exact n31 a
        · exact h13 a.2 a.1
        · exact absurd a (by decide)), if_pos (Or.inl rfl)]
    rw [isN hr]
    refine ⟨fun n34 => bl_X10_primary_3 (by decide) ?_, fun e34 => bl_X10_primary_3 (by decide) ?_⟩
    · rintro x1 rfl
      refine ⟨fun _ => bl_X10_primary_4 (by decide) ⟨fun z => absurd rfl z, fun _ => ⟨fun z0 => five 0 ?_, fun z0 => ?_⟩⟩, fun z => absurd rfl z⟩
      · rintro (w | w)
        · exact n34 w
        · apply z0
          rw [h22]
          obtain ⟨ei, el⟩ := isM_ix (m := 21) (x := tkK lg tb L p) ⟨by have := w.1; omega, by have := w.2; omega⟩
          have : ∀ i, i < 21 → sortK (nI i) = 0 := by decide
          rw [ei]
          exact this _ el
      · have ex : ∃ j, j < 21 ∧ tkK lg tb L p = nI j ∧ μ.1 10 0 23 = nI j := by
          rcases tk_val (lg := lg) (tb := tb) (L := L) (p := p) with ⟨i, hi, e, ev⟩ | ⟨i, h1, h2, e, ev⟩ | e | e | e | e
          · exact ⟨i, hi, e, ((isW hr.2.2.1 i hi).mpr e).2⟩
          · rw [h22, e] at z0
            have : ∀ i, i < 34 → 21 ≤ i → ¬ sortK (nI i) = 0 := by decide
            exact absurd z0 (this i (by omega) h1)
          · rw [h22, e] at z0; exact absurd z0 (by decide)
          · rw [h22, e] at z0; exact absurd z0 (by decide)
          · rw [h22, e] at z0; exact absurd z0 (by decide)
          · rw [h22, e] at z0; exact absurd z0 (by decide)
        obtain ⟨j, hj, ej, ev⟩ := ex
        rw [ev, show (14 : Int32) = nI 14 from rfl, nI_leI (by omega) (by omega)]
        refine ⟨fun z14 => ?_, fun z14 => five 0 ?_⟩
        · have c1 : ∀ i, i < 21 → 14 ≤ i → (∀ v, ck (nI i) v = (1, nI i - 14)) ∧ ¬ nI i = 34 ∧ inR (nI i) 14 20 := by
            intro i hi h14
            have a : ¬ nI i = 34 ∧ ¬ iw (nI i) 14 20 = 0 ∧ inR (nI i) 14 20 := by
              have : ∀ i, i < 21 → 14 ≤ i → ¬ nI i = 34 ∧ ¬ iw (nI i) 14 20 = 0 ∧ inR (nI i) 14 20 := by decide
              exact this i hi h14
            exact ⟨fun v => by rw [ck, if_neg a.1, if_neg a.2.1], a.1, a.2.2⟩
          have dp : ∀ i, i < 21 → 14 ≤ i → (nI i - 14).toNatClampNeg < 7 ∧ nI i - 14 = nI (nI i - 14).toNatClampNeg := by decide
          refine p6_ok hd hWd hr hK0 hp (Or.inr (by rw [ej]; exact (c1 j hj z14).2.2)) (fun w => n34 w.1) (fun _ => by rw [ej, ev]; exact (c1 j hj z14).1 _) (fun w => absurd rfl w) (fun h => ?_)
          rw [ej, (c1 j hj z14).1]
          unfold dps
          rw [if_neg (show ¬ (1 : Int32) = 0 by decide), if_pos rfl, if_pos (dp j hj z14)]
        · rintro (w | w)
          · exact n34 w
          · rw [ej] at w
            have := w.1
            rw [nI_toInt (by omega)] at this
            omega
    · rintro x1 rfl
      obtain ⟨a, b, ea, eb, hab⟩ := num_val e34
      have ev : μ.1 10 0 23 = nI b := by
        rw [← eb]
        exact hr.2.2.1.2.2.2 (fun z => by have : tkK lg tb L p = 36 := z; rw [e34] at this; exact absurd this (by decide)) (fun z => by have : tkK lg tb L p = 37 := z; rw [e34] at this; exact absurd this (by decide))
      have ha : a ≤ 1000000 ∧ b ≤ 1000000 := by unfold numR at hab; omega
      rw [ev, show (9999 : Int32) = nI 9999 from rfl, nI_leI (by omega) (by omega)]
      refine ⟨fun z => absurd z (by decide), fun _ => ⟨fun z9 => bl_X10_primary_4 (by decide) ⟨fun _ => ?_, fun z => absurd z (by decide)⟩, fun z9 => ⟨0, _, by omega, k_wrong (x := 2) (by decide) hr, ?_⟩⟩⟩
      · have eab : a = b := by unfold numR at hab; omega
        refine p6_ok hd hWd hr hK0 hp (Or.inl e34) (fun w => ?_) (fun w => absurd w (by decide)) (fun _ => by rw [e34, ev, ea, eab]; rfl) (fun h => ?_)
        · have := w.2
          rw [ea, nI_toInt (by omega)] at this
          omega
        · rw [e34]; rfl
      · rintro μ8 ⟨F8, f8⟩
        refine p6_bad (by omega) F8 ⟨2, p, f8, fun m hm => ?_⟩
        obtain ⟨m2, rfl⟩ : ∃ m2, m = m2 + 1 := ⟨m - 1, by omega⟩
        have h9 : 9999 < (tkV lg tb L p).toInt := by
          rw [ea, nI_toInt (by omega)]
          unfold numR at hab
          omega
        rw [syR, if_neg (fun z => z (Or.inl ⟨rfl, Or.inl (Or.inl e34)⟩)), if_pos (Or.inr ⟨n31, by rw [e34]; decide, Or.inr ⟨e34, h9⟩⟩)]
  · have e31 : tkK lg tb L p = 31 := Decidable.not_not.mp (fun w => z ((bSg hr 31 (by omega) (by omega) (by decide)).mpr w))
    have hcan : canP true nm (cm o) o (tkK lg tb L p) := Or.inl ⟨rfl, Or.inr (Or.inl e31)⟩
    have hpL := can_end hcan
    have hgt := nxP_gt (lg := lg) (tb := tb) hpL
    rw [h28, show (8 : Int32) = nI 8 from rfl, nI_eq (by omega) (by omega)]
    refine ⟨fun z8 => ?_, fun z8 => ⟨0, _, by omega, k_wrong (x := 2) (by decide) hr, ?_⟩⟩
    · obtain ⟨dE, hdE, hE⟩ := hE (by omega)
      refine bl_X10_primary_1 (by decide) ⟨fun _ => ?_, fun z => absurd hr.2.1 z⟩
      rw [h28, nI_1]
      rintro μ2 e2
      obtain ⟨r2, F2⟩ : rmM lg tb L μ2 p (c, f) (o + 1) n ∧ rdF μ μ2 := by rw [e2]; exact hr.o28
      clear e2
      refine ⟨2, _, by omega, c_token (by omega) hWd r2.1 hp r2.2.2.1, ?_⟩
      rintro μ7 ⟨F7, a7⟩
      have r7 := r2.tk F7 a7
      have chain : ∀ m, L < p + m → ∃ m', L < nxP lg tb L p + m' ∧ syR lg tb L m p W cm o true nm c f n = syR lg tb L m' (nxP lg tb L p) (31 :: W) (upB cm (o + 1) false) (o + 1) true true c f n := by
        intro m hm
        obtain ⟨m2, rfl⟩ : ∃ m2, m = m2 + 1 := ⟨m - 1, by omega⟩
        refine ⟨m2, by omega, ?_⟩
        rw [syR, if_neg (fun z => z hcan), e31, if_neg (fun z => by
          rcases z with z | ⟨z, -⟩
          · omega
          · exact z rfl), if_neg (by decide), if_pos rfl]
      refine ⟨dE, _, hdE, hE μ7 (nxP lg tb L p) (31 :: W) (upB cm (o + 1) false) true c f n (Nat.zero_le _) r7 ⟨?_, k2, ?_, by omega, fun x hx => ?_⟩ (nxP_le hp) ⟨?_, fun _ => ⟨rfl, by rw [upB, if_pos rfl]⟩, fun z => by omega⟩, ?_⟩
      · show f + (0 + cnS W) = n
        omega
      · show 1 + cnO W = o + 1
        omega
      · rcases List.mem_cons.mp hx with e | e
        · exact Or.inl e
        · exact k5 x e
      · intro k W' e
        obtain ⟨rfl, -⟩ := List.cons.inj e
        decide
      · rintro μ14 ⟨F14, b | ⟨p1, P1, cm1, nm1, c1, f1, n1, ok⟩⟩
        · have nz := b.nz
          refine ⟨fun _ => bl_X10_primary_2 (by decide) ⟨fun z => absurd z nz, fun _ => ?_⟩, fun z => absurd z nz⟩
          obtain ⟨x, p', fl, hs⟩ := b
          refine ⟨(F2.tr F7.d).tr F14, Or.inl ⟨x, p', fl, fun m hm => ?_⟩⟩
          obtain ⟨m1, g1, e1⟩ := chain m hm
          rw [e1]
          exact hs m1 g1
        · obtain ⟨b1, b2, b3, b4, b5, b6, b7, b8, b9, b10, b11⟩ := ok
          refine ⟨fun z => absurd b1.2.1 z, fun _ => ⟨by omega, fun z => ?_, fun z => ⟨0, _, by omega, k_wrong (x := 1) (by decide) b1, ?_⟩⟩⟩
          · have e32 : tkK lg tb L p1 = 32 := Decidable.not_not.mp (fun w => z ((bSg b1 32 (by omega) (by omega) (by decide)).mpr w))
            have hcan1 : canP false nm1 (cm1 (o + 1)) (o + 1) (tkK lg tb L p1) := Or.inr ⟨rfl, Or.inl ⟨e32, by omega⟩⟩
            have hp1L := can_end hcan1
            have hgt1 := nxP_gt (lg := lg) (tb := tb) hp1L
            refine bl_X10_primary_2 (by decide) ⟨fun _ => ?_, fun z => absurd b1.2.1 z⟩
            rw [b1.2.2.2.1, show (1 : Int32) = nI 1 from rfl, pk_sub (by omega), show o + 1 - 1 = o by omega]
            rintro μ15 e15
            obtain ⟨r15, F15⟩ : rmM lg tb L μ15 p1 (em P1 c1 f1) o n1 ∧ rdF μ14 μ15 := by rw [e15]; exact b1.o28
            clear e15
            refine ⟨2, _, by omega, c_token (by omega) hWd r15.1 b4.2 r15.2.2.1, ?_⟩
            rintro μ16 ⟨F16, a16⟩
            have hrel := rel_em (s := 1) (W := 31 :: W) (fun k W' e => by obtain ⟨rfl, -⟩ := List.cons.inj e; decide) P1 c1 f1 b2
            have hrc := rel_cn (s := 1) (by omega) (P1 ++ 31 :: W) c1 f1
            rw [hrel] at hrc
            obtain ⟨j1, j2, j3, j4, j5⟩ := b3
            refine ⟨(((F2.tr F7.d).tr F14).tr F15).tr F16.d, Or.inr ⟨nxP lg tb L p1, [], cm1, nm1, (em P1 c1 f1).1, (em P1 c1 f1).2, n1, r15.tk F16 a16, fun k hk => absurd hk List.not_mem_nil, ⟨?_, j2, k3, k4, k5⟩, ⟨by omega, nxP_le b4.2⟩, ⟨fun z => by omega, fun z => by omega, fun z => by omega, fun z => by omega, fun z => by omega⟩, fun j hj => ?_, fun _ => ?_, b8, b9, b10, fun m hm => ?_⟩⟩
            · have : (em P1 c1 f1).2 + (0 + cnS W) = f1 + cnS (P1 ++ 31 :: W) := hrc.1
              show (em P1 c1 f1).2 + cnS W = n1
              omega
            · rw [b6 j (by omega), upB, if_neg (by omega)]
            · rw [b6 o (by omega), upB, if_neg (by omega)]
            · obtain ⟨m1, g1, e1⟩ := chain m hm
              obtain ⟨m2, g2, e2⟩ := b11 m1 g1
              obtain ⟨m3, rfl⟩ : ∃ m3, m2 = m3 + 1 := ⟨m2 - 1, by omega⟩
              refine ⟨m3, by omega, ?_⟩
              rw [e1, e2, syR, if_neg (fun z => z hcan1), e32, if_neg (fun z => by
                rcases z with z | ⟨-, z, -⟩
                · exact absurd z.1 (by decide)
                · exact z rfl), if_neg (by decide), if_neg (by decide), if_pos rfl, hrel, show o + 1 - 1 = o by omega]
              rfl
          · rintro μ27 ⟨F27, f27⟩
            have n32 : ¬ tkK lg tb L p1 = 32 := (bSg b1 32 (by omega) (by omega) (by decide)).mp z
            refine bl_X10_primary_2 (by decide) ⟨fun w => absurd (f27.2.1.symm.trans w) f27.1, fun _ => ⟨((F2.tr F7.d).tr F14).tr F27, Or.inl ⟨1, p1, f27, fun m hm => ?_⟩⟩⟩
            obtain ⟨m1, g1, e1⟩ := chain m hm
            obtain ⟨m2, g2, e2⟩ := b11 m1 g1
            have := b4.2
            obtain ⟨m3, rfl⟩ : ∃ m3, m2 = m3 + 1 := ⟨m2 - 1, by omega⟩
            obtain ⟨s1, s2, s3, s4, s5⟩ := b5
            rw [e1, e2, syR, if_pos (fun z => by
              rcases z with ⟨a, -⟩ | ⟨-, a | ⟨-, a | a | a | a⟩⟩
              · exact absurd a (by decide)
              · exact n32 a.1
              · exact s5 (by omega) a
              · exact s4 (by omega) a
              · have h1 := a.1
                have h2 := a.2
                by_cases hh : (tkK lg tb L p1).toInt ≤ 28
                · exact s2 (by omega) ⟨h1, hh⟩
                · exact s1 (by omega) ⟨by omega, h2⟩
              · rw [s3 (by omega) a.1] at a
                exact absurd a.2 (by decide)), if_pos (Or.inr (by omega))]
    · rintro μ13 ⟨F13, f13⟩
      refine bl_X10_primary_1 (by decide) ⟨fun w => absurd (f13.2.1.symm.trans w) f13.1, fun _ => ⟨F13, Or.inl ⟨2, p, f13, fun m hm => ?_⟩⟩⟩
      obtain ⟨m2, rfl⟩ : ∃ m2, m = m2 + 1 := ⟨m - 1, by omega⟩
      rw [syR, if_neg (fun z => z hcan), if_pos (Or.inl ⟨e31, by omega⟩)]
/-- the whole expression -/
theorem lv_all (hWd : WordC l D lg) : ∀ (r o : Nat), o + r = 8 → lvC l D lg tb L yX10_expression cX10_expression 1 1 o 0 (72 * r + 75) := by
  intro r
  induction r with
  | zero =>
    intro o ho
    have h1 := lv_primary (l := l) (D := D) (tb := tb) (L := L) (o := o) (d := 4) (by omega) hWd (fun w => by omega)
    have h2 := lv_product (d := 5) (by omega) (by omega) hWd h1
    have h3 := lv_sum (d := 6) (by omega) (by omega) (by omega) hWd h2
    have h4 := lv_neg (by omega) hWd h3 64 0 71 (by omega) (by omega)
    have h5 := lv_conj (d := 72) (by omega) (by omega) (by omega) hWd h4
    exact lv_expr (d := 72 * 0 + 75) (by omega) (by omega) (by omega) hWd h5
  | succ r ih =>
    intro o ho
    have h0 := ih (o + 1) (by omega)
    have h1 := lv_primary (l := l) (D := D) (tb := tb) (L := L) (o := o) (d := 72 * r + 76) (by omega) hWd (fun _ => ⟨72 * r + 75, by omega, h0⟩)
    have h2 := lv_product (d := 72 * r + 77) (by omega) (by omega) hWd h1
    have h3 := lv_sum (d := 72 * r + 78) (by omega) (by omega) (by omega) hWd h2
    have h4 := lv_neg (by omega) hWd h3 64 0 (72 * r + 143) (by omega) (by omega)
    have h5 := lv_conj (d := 72 * r + 144) (by omega) (by omega) (by omega) hWd h4
    exact lv_expr (d := 72 * (r + 1) + 75) (by omega) (by omega) (by omega) hWd h5
end RE
