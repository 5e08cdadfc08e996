/-! negation -/
theorem al_len {k : Int32} {W : List Int32} (n31 : ¬ k = 31) : ∀ Q : List Int32, (∀ x, x ∈ Q → 1 ≤ str x) → Q.length + 1 ≤ cnS (Q ++ k :: W) := by
  intro Q
  induction Q with
  | nil =>
    intro _
    show 0 + 1 ≤ cnS (k :: W)
    rw [cnS, if_neg n31]; omega
  | cons x Q ih =>
    intro hx
    show Q.length + 1 + 1 ≤ cnS (x :: (Q ++ k :: W))
    rw [cnS, if_neg (str_31 (hx x List.mem_cons_self))]
    have := ih (fun z hz => hx z (List.mem_cons_of_mem _ hz))
    omega
abbrev cmpB (a b : Int32) : Prop := a = 3 ∧ (b = 60 ∨ b = 62 ∨ b = 61 ∨ (256 : Int32) ≤ b)
section RN
variable {l : Launch} {D : gD} {lg : Nat → Int32} {tb : Nat → Nat} {L : Nat} {o : Nat} {p1 n1 : Nat} {μ1 : gMem}
theorem cmpC {cf : cdT × Nat} (h : rmM lg tb L μ1 p1 cf o n1) : (cmpB (μ1.1 10 0 22) (μ1.1 10 0 23) ∧ ∃ j, 21 ≤ j ∧ j ≤ 26 ∧ tkK lg tb L p1 = nI j ∧ μ1.1 10 0 23 = sgk (nI j)) ∨ (¬ cmpB (μ1.1 10 0 22) (μ1.1 10 0 23) ∧ ¬ inR (tkK lg tb L p1) 21 26) := by
  obtain ⟨-, -, h22, h23⟩ := h.2.2.1
  have h22 : μ1.1 10 0 22 = sortK (tkK lg tb L p1) := h22
  have h23 : ¬ tkK lg tb L p1 = 36 → ¬ tkK lg tb L p1 = 37 → μ1.1 10 0 23 = (tkF lg tb L p1).2.2.2 := h23
  have so : ∀ i, i < 21 → ¬ sortK (nI i) = 3 := by decide
  have s2 : ∀ i, i < 34 → 21 ≤ i → sortK (nI i) = 3 := by decide
  have n6 : ∀ i, i < 34 → ¬ nI i = 36 ∧ ¬ nI i = 37 := by decide
  have cy : ∀ i, i < 27 → 21 ≤ i → (sgV (nI i) = 60 ∨ sgV (nI i) = 62 ∨ sgV (nI i) = 61 ∨ (256 : Int32) ≤ sgV (nI i)) ∧ sgV (nI i) = sgk (nI i) := by decide
  have cn : ∀ i, i < 34 → 27 ≤ i → ¬ (sgV (nI i) = 60 ∨ sgV (nI i) = 62 ∨ sgV (nI i) = 61 ∨ (256 : Int32) ≤ sgV (nI i)) := by decide
  rcases tk_val (lg := lg) (tb := tb) (L := L) (p := p1) with ⟨i, hi, e, ev⟩ | ⟨i, h1, h2, e, ev⟩ | e | e | e | e
  · refine Or.inr ⟨fun z => so i hi (by rw [← e, ← h22]; exact z.1), fun z => ?_⟩
    rw [e] at z
    have := z.1
    rw [nI_toInt (by omega)] at this
    omega
  · have hv := h23 (by rw [e]; exact (n6 i (by omega)).1) (by rw [e]; exact (n6 i (by omega)).2)
    rw [ev] at hv
    by_cases hc : i ≤ 26
    · refine Or.inl ⟨⟨by rw [h22, e]; exact s2 i (by omega) h1, by rw [hv]; exact (cy i (by omega) h1).1⟩, i, h1, hc, e, by rw [hv]; exact (cy i (by omega) h1).2⟩
    · refine Or.inr ⟨fun z => cn i (by omega) (by omega) (by rw [← hv]; exact z.2), fun z => ?_⟩
      rw [e] at z
      have := z.2
      rw [nI_toInt (by omega)] at this
      omega
  · exact Or.inr ⟨fun z => by rw [h22, e] at z; exact absurd z.1 (by decide), by rw [e]; decide⟩
  · exact Or.inr ⟨fun z => by rw [h22, e] at z; exact absurd z.1 (by decide), by rw [e]; decide⟩
  · exact Or.inr ⟨fun z => by rw [h22, e] at z; exact absurd z.1 (by decide), by rw [e]; decide⟩
  · exact Or.inr ⟨fun z => by rw [h22, e] at z; exact absurd z.1 (by decide), by rw [e]; decide⟩
theorem lv_neg1 {dS lo d : Nat} (hdS : 3 ≤ dS) (hWd : WordC l D lg) (hS : lvC l D lg tb L yX10_sum cX10_sum 2 5 o 0 dS) (hd : dS + 1 ≤ d) {μ : gMem} {p : Nat} {W : List Int32} {cm : Nat → Bool} {nm : Bool} {c : cdT} {f n : Nat} (hneg : n < 64 → ∃ dn, dn < d ∧ lvC l D lg tb L yX10_negation cX10_negation 2 3 o (lo + 1) dn) (hln : lo ≤ n) (hr : rmM lg tb L μ p (c, f) o n) (hK : fmK W o f n) (hp : p ≤ L) (hpre : preP 3 W nm (cm o) (tkK lg tb L p)) : Ctr l D d yX10_negation cX10_negation 2 none [.ref (D.2.2 10 0)] μ (pV (rdQ lg tb L 3 W cm o p nm c f n μ)) := by
  obtain ⟨hW4, hnm, -⟩ := hpre
  rw [if_pos rfl] at hW4
  obtain ⟨enm, ecm⟩ := hnm (by omega)
  obtain ⟨k1, k2, k3, k4, k5⟩ := hK
  refine en_X10_negation (fun Γ => bl_X10_negation_0 (by decide) ⟨by omega, fun z => ?_, fun z => ?_⟩)
  · have n13 := (bWd hr 13 (by omega)).mp z
    refine ⟨dS, _, by omega, hS μ p W cm nm c f n (Nat.zero_le _) hr ⟨k1, k2, k3, k4, k5⟩ hp ⟨?_, fun z => by omega, fun _ _ => n13⟩, ?_⟩
    · intro k W' e
      have := hW4 k W' e
      rw [if_neg (by omega)]
      omega
    · rintro μ10 ⟨F10, b | ⟨p1, P1, cm1, nm1, c1, f1, n1, ok⟩⟩
      · exact ⟨fun _ => ⟨F10, Or.inl b⟩, fun z => absurd z b.nz⟩
      · have h24 := ok.1.2.1
        have yes : cmpB (μ10.1 10 0 22) (μ10.1 10 0 23) → pt_X10_negation_1 l D d (rdQ lg tb L 3 W cm o p nm c f n μ) Γ 0 μ10 := by
          intro hc
          rcases cmpC ok.1 with ⟨-, j, j1, j2, ej, ev⟩ | ⟨w, -⟩
          · refine bl_X10_negation_1 (by decide) ?_
            rintro x1 ex
            have hin : inR (nI j) 21 26 := by
              unfold inR
              rw [nI_toInt (by omega)]
              omega
            have es : str (nI j) = 4 := by
              have : ∀ i, i < 27 → 21 ≤ i → str (nI i) = 4 := by decide
              exact this j (by omega) j1
            have ec1 : cm1 o = false := by rw [ok.2.2.2.2.2.2.1 (by omega)]; exact ecm
            have eN : cmN cm1 o (nI j) o = true := by rw [cmN, if_pos hin, upB, if_pos rfl]
            refine rd_body (s := 3) (s2 := 5) (k := nI j) (NEXT := fun μ27 => rdQ lg tb L 3 W cm o p nm c f n μ μ27) (by omega) (by omega : dS < d) hWd hS (fun μ hz => n_sum (by omega) hz) F10 ok ej (Or.inr (Or.inr (Or.inr ⟨hin, ec1⟩))) (by omega) (by rw [es]; exact hW4) (by omega) (by omega) (fun z => by omega) (by rw [ex, ev]) ⟨?_, fun z => by omega, fun _ z => ?_⟩ (fun μ' p2 P2 cm2 nm2 c2 f2 n2 F2 hlt e2 ok2 => ⟨F2, Or.inr ⟨p2, P2, cm2, nm2, c2, f2, n2, ok2.wk (Nat.le_refl _) ?_⟩⟩) (fun μ' F nz b => ⟨F, Or.inl b⟩)
            · intro k W' e
              obtain ⟨rfl, -⟩ := List.cons.inj e
              rw [if_neg (by omega), es]
              omega
            · rw [es] at z
              exact absurd z (by decide)
            · have st := ok2.2.2.2.2.1
              exact ⟨fun _ => st.1 (by omega), fun _ => st.2.1 (by omega), fun _ _ => by rw [e2 (by omega)]; exact eN, fun z => by omega, fun z => by omega⟩
          · exact absurd hc w
        have no : ¬ cmpB (μ10.1 10 0 22) (μ10.1 10 0 23) → rdQ lg tb L 3 W cm o p nm c f n μ μ10 := by
          intro hc
          rcases cmpC ok.1 with ⟨w, -⟩ | ⟨-, hin⟩
          · exact absurd w hc
          · have st := ok.2.2.2.2.1
            exact ⟨F10, Or.inr ⟨p1, P1, cm1, nm1, c1, f1, n1, ok.wk (by omega) ⟨fun _ => st.1 (by omega), fun _ => st.2.1 (by omega), fun _ w => absurd w hin, fun z => by omega, fun z => by omega⟩⟩⟩
        refine ⟨fun z => absurd h24 z, fun _ => ⟨fun z => no (fun w => z w.1), fun z3 => ⟨fun z => yes ⟨z3, Or.inl z⟩, fun a1 => ⟨fun z => yes ⟨z3, Or.inr (Or.inl z)⟩, fun a2 => ⟨fun z => yes ⟨z3, Or.inr (Or.inr (Or.inl z))⟩, fun a3 => ⟨fun z => yes ⟨z3, Or.inr (Or.inr (Or.inr z))⟩, fun a4 => no (fun w => ?_)⟩⟩⟩⟩⟩⟩
        rcases w.2 with w | w | w | w
        · exact a1 w
        · exact a2 w
        · exact a3 w
        · exact a4 w
  · have e13 : tkK lg tb L p = 13 := Decidable.not_not.mp (fun w => z ((bWd hr 13 (by omega)).mpr w))
    have hcan : canP true nm (cm o) o (tkK lg tb L p) := Or.inl ⟨rfl, Or.inr (Or.inr ⟨e13, enm⟩)⟩
    have hpL := can_end hcan
    have hgt := nxP_gt (lg := lg) (tb := tb) hpL
    have nV : ¬ isV (13 : Int32) := by decide
    refine ⟨1, _, by omega, c_X10_knot (by omega) k2 hr, ?_⟩
    rintro μ23 ⟨F23, bad, ok⟩
    by_cases hn : n = 64
    · have fl := bad hn
      have nz : ¬ μ23.1 10 0 24 = 0 := by rw [fl.2.1]; exact fl.1
      refine ⟨0, _, by omega, n_goOn nz, ?_⟩
      rintro μ30 e30
      rw [e30]
      refine ⟨3, _, by omega, n_negation (by omega) nz, ?_⟩
      rintro μ37 e37
      rw [e37]
      refine ⟨0, _, by omega, n_puts nz, ?_⟩
      rintro μ44 e44
      rw [e44]
      refine ⟨F23, Or.inl ⟨2, p, fl, fun m hm => ?_⟩⟩
      obtain ⟨m2, rfl⟩ : ∃ m2, m = m2 + 1 := ⟨m - 1, by omega⟩
      rw [syR, if_neg (fun z => z hcan), e13, if_pos (Or.inr ⟨by decide, by decide, Or.inl (by omega)⟩)]
    · have r23 := ok hn
      obtain ⟨dn, hdn, hN⟩ := hneg (by omega)
      refine ⟨3, _, by omega, c_X10_goOn (by omega) hWd hp r23, ?_⟩
      rintro μ30 ⟨F30, r30⟩
      have chain : ∀ m, L < p + m → ∃ m', L < nxP lg tb L p + m' ∧ syR lg tb L m p W cm o true nm c f n = syR lg tb L m' (nxP lg tb L p) (13 :: W) (cmN cm o 13) o true true c f (n + 1) := by
        intro m hm
        obtain ⟨m2, rfl⟩ : ∃ m2, m = m2 + 1 := ⟨m - 1, by omega⟩
        refine ⟨m2, by omega, ?_⟩
        rw [syR, if_neg (fun z => z hcan), e13, if_neg (fun z => by
          rcases z with z | ⟨-, -, z | z⟩
          · exact absurd z.1 (by decide)
          · omega
          · exact absurd z.1 (by decide)), if_neg nV, if_neg (by decide), if_neg (by decide), if_pos rfl]
      refine ⟨dn, _, hdn, hN μ30 (nxP lg tb L p) (13 :: W) (cmN cm o 13) true c f (n + 1) (by omega) r30 ⟨?_, by omega, ?_, k4, fun x hx => ?_⟩ (nxP_le hp) ⟨?_, fun _ => ⟨rfl, ?_⟩, fun z => by omega⟩, ?_⟩
      · show f + (1 + cnS W) = n + 1
        omega
      · show 0 + cnO W = o
        omega
      · rcases List.mem_cons.mp hx with e | e
        · rw [e]; exact Or.inr (by decide)
        · exact k5 x e
      · intro k W' e
        obtain ⟨rfl, -⟩ := List.cons.inj e
        decide
      · rw [cmN, if_neg (by decide), if_pos (by decide), upB, if_pos rfl]
      · rintro μ37 ⟨F37, b | ⟨p2, P2, cm2, nm2, c2, f2, n2, ok2⟩⟩
        · refine ⟨0, _, by omega, n_puts b.nz, ?_⟩
          rintro μ44 e44
          rw [e44]
          obtain ⟨x, p', fl, hs⟩ := b
          refine ⟨(F23.tr F30).tr F37, Or.inl ⟨x, p', fl, fun m hm => ?_⟩⟩
          obtain ⟨m1, g1, e1⟩ := chain m hm
          rw [e1]
          exact hs m1 g1
        · obtain ⟨b1, b2, b3, b4, b5, b6, b7, b8, b9, b10, b11⟩ := ok2
          have hel := em_len P2 c2 f2
          have hal := al_len (k := 13) (W := W) (by decide) P2 (fun x hx => by have := b2 x hx; omega)
          have q1 := b3.1
          have q2 := b3.2.1
          refine ⟨1, _, by omega, c_X10_puts (by omega) (by omega) b1, ?_⟩
          rintro μ44 ⟨F44, r44⟩
          have eE : em (P2 ++ [13]) c2 f2 = (upC (em P2 c2 f2).1 (em P2 c2 f2).2 (2, 260), (em P2 c2 f2).2 + 1) := by
            rw [em_app, show ((2, 260) : Int32 × Int32) = ck 13 0 by decide]
            rfl
          have eA : P2 ++ [13] ++ W = P2 ++ 13 :: W := by rw [List.append_assoc]; rfl
          refine ⟨((F23.tr F30).tr F37).tr F44, Or.inr ⟨p2, P2 ++ [13], cm2, nm2, c2, f2, n2, ?_⟩⟩
          unfold rdOk
          rw [eE, eA]
          refine ⟨r44, fun x hx => ?_, b3, ⟨by omega, b4.2⟩, b5, fun j hj => by rw [b6 j hj, cmN_o j hj], fun z => by omega, ⟨by show f < (em P2 c2 f2).2 + 1; have := b8.1; omega, fun i hi => ?_⟩, fun x => ?_, by omega, fun m hm => ?_⟩
          · rcases List.mem_append.mp hx with w | w
            · exact b2 x w
            · rw [List.mem_singleton.mp w]; decide
          · have := b8.1
            show upC (em P2 c2 f2).1 (em P2 c2 f2).2 (2, 260) i = c i
            rw [upC, if_neg (by omega), b8.2 i hi]
          · show dpn (upC (em P2 c2 f2).1 (em P2 c2 f2).2 (2, 260)) ((em P2 c2 f2).2 + 1 - f) f x = some (x + 1)
            have q3 := b8.1
            generalize hF2 : (em P2 c2 f2).2 = F2 at *
            rw [show F2 + 1 - f = (F2 - f) + 1 by omega, dpn_app, dpn_cong (c' := (em P2 c2 f2).1) (F2 - f) f x (fun j j1 j2 => by rw [upC, if_neg (by omega)]), b9 x]
            show dpn _ 1 (f + (F2 - f)) (x + 1) = some (x + 1)
            rw [show f + (F2 - f) = F2 by omega, dpn, upC, if_pos rfl]
            have : dps (2, 260) (x + 1) = some (x + 1) := by
              unfold dps
              rw [if_neg (show ¬ (2 : Int32) = 0 by decide), if_neg (show ¬ (2 : Int32) = 1 by decide), if_pos rfl, if_pos rfl, if_pos (by omega)]
            rw [this]
            rfl
          · obtain ⟨m1, g1, e1⟩ := chain m hm
            obtain ⟨m2, g2, e2⟩ := b11 m1 g1
            exact ⟨m2, g2, by rw [e1, e2]⟩
theorem lv_neg {dS : Nat} (hdS : 3 ≤ dS) (hWd : WordC l D lg) (hS : lvC l D lg tb L yX10_sum cX10_sum 2 5 o 0 dS) : ∀ (r lo d : Nat), lo + r = 64 → dS + 1 + r ≤ d → lvC l D lg tb L yX10_negation cX10_negation 2 3 o lo d := by
  intro r
  induction r with
  | zero =>
    intro lo d hlo hd μ p W cm nm c f n hln hr hK hp hpre
    exact lv_neg1 (lo := lo) (n := n) hdS hWd hS (by omega) (fun h => absurd h (by omega)) hln hr hK hp hpre
  | succ r ih =>
    intro lo d hlo hd μ p W cm nm c f n hln hr hK hp hpre
    exact lv_neg1 (lo := lo) (n := n) hdS hWd hS (by omega) (fun _ => ⟨d - 1, by omega, ih (lo + 1) (d - 1) (by omega) (by omega)⟩) hln hr hK hp hpre
end RN
