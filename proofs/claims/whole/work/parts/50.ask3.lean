/-! earns, winner, needs -/
noncomputable def earnsF (A : wEnv) (wet : Int32) (dy : Nat) (S : pplS) (x1 x2 x3 : Int32) : Int32 := if isM (eMen A) x1 ∧ inR x2 0 60 ∧ inR x3 0 1 then (if x3 = 0 then runF A wet (ix x2) dy S (ix x1) 7 - S (ix x1) 7 else runF A wet (ix x2) dy S (ix x1) 8 - S (ix x1) 8) else -1
noncomputable def winnerF (A : wEnv) (wet : Int32) (dy : Nat) (S : pplS) (x1 : Int32) : Int32 := if inR x1 0 1 ∧ ¬ eMen A = 0 then (if x1 = 1 then nI (dtp A dy) else nxt A wet dy S) else -1
/-- with more of a sum -/
def addS (S : pplS) (man k : Nat) : pplS := setS S man 4 (S man 4 + nI k)
noncomputable def needL (A : wEnv) (wet : Int32) (dy : Nat) (S : pplS) (man : Nat) : Nat → Nat → Int32
  | 0, _ => -2
  | c + 1, k => if nxt A wet dy (addS S man k) = nI man then nI k else needL A wet dy S man c (k + 1)
noncomputable def needsF (A : wEnv) (wet : Int32) (dy : Nat) (S : pplS) (x1 : Int32) : Int32 := if isM (eMen A) x1 then needL A wet dy S (ix x1) 1000 0 else -1
theorem nI_z {k : Nat} (h : k < 2 ^ 31) : nI k = 0 ↔ k = 0 := nI_eq (b := 0) h (by omega)
theorem okS_add {A : wEnv} {dy man k : Nat} {S : pplS} (hA : okA A) (h : okS A 0 S dy) (hm : man < eMen A) (hk : k ≤ 999) : okS A 999 (addS S man k) dy := by
  have h5 := hA.1
  have h4 := h.2.1 man (by omega)
  have hmod : dy % eBd A < 14 := by
    have := Nat.mod_lt dy hA.2.1
    have := hA.2.2.1
    omega
  refine okS_set h (by omega) hm (by omega) (by omega) (by omega) (by omega) (fun _ => ?_) (by omega)
  rw [fb_addI (by rw [nI_toInt (by omega)]; omega) (by rw [nI_toInt (by omega)]; omega), nI_toInt (by omega)]
  omega
section Q3
variable {l : Launch} {D : gD} {d : Nat} {μ : gMem} {t n dy : Nat} {A : wEnv} {S : pplS} {x1 x2 x3 : Int32}
theorem c_X9_earns (hd : 7 ≤ d) (h : nC μ t n A S dy) : Ctr l D d yX9_earns cX9_earns 6 (some .int) [.ref (D.2.2 9 0), .int x1, .int x2, .int x3] μ (pI (fun v μ' => v = earnsF A (wtC μ t) dy S x1 x2 x3 ∧ cqF μ μ' ∧ jk μ')) := by
  have h5 := h.men
  have hdy := h.2.2.2.2.1
  refine en_X9_earns (fun Γ => bl_X9_earns_0 (by decide) ?_)
  rw [h.1, h.iw, iw_lit (x := x2) (za := 0) (zb := 60) (by decide) (by decide), iw_lit (x := x3) (za := 0) (zb := 1) (by decide) (by decide)]
  refine ⟨by omega, h.2.1, fun z => ⟨by rw [earnsF, if_neg (fun w => z w.1)], cqF.rf, h.jk⟩, fun z1 => ⟨by omega, fun z => ⟨by rw [earnsF, if_neg (fun w => z w.2.1)], cqF.rf, h.jk⟩, fun z2 => ⟨by omega, fun z3 => ?_, fun z => ⟨by rw [earnsF, if_neg (fun w => z w.2.2)], cqF.rf, h.jk⟩⟩⟩⟩
  have z1 := Decidable.not_not.mp z1
  have z2 := Decidable.not_not.mp z2
  have z3 := Decidable.not_not.mp z3
  obtain ⟨m1, m2⟩ := isM_ix z1
  obtain ⟨n1, n2⟩ := inR_ix (b := 60) z2
  refine ⟨6, _, by omega, c_X9_lookAtAll (by omega) h, ?_⟩
  rintro μ1 ⟨hF1, hn1, hw1, -, -, -⟩
  refine ⟨6, _, by omega, c_X9_passAsItGoes n1 (by omega) hn1 hw1 (by omega) (by omega), ?_⟩
  rintro μ2 ⟨hF2, hn2, hw2, -⟩
  rw [wtC.cq hF1] at hw2
  have row0 : ∀ j, μ2.1 4 (5 * 0 + ix x1) j = S (ix x1) j := fun j => by rw [Nat.mul_zero, Nat.zero_add, hn2.row (by omega)]
  have row2 : ∀ j, μ2.1 4 (5 * 2 + ix x1) j = runF A (wtC μ t) (ix x2) dy S (ix x1) j := fun j => by rw [hw2.2.2.2.2.1.1 _ (by omega)]
  refine ⟨ix x1, by omega, m1, ix x1, by omega, m1, fun q => ⟨?_, hF1.tr hF2, hw2.2.2.2.2.1.2⟩, fun q => ⟨?_, hF1.tr hF2, hw2.2.2.2.2.1.2⟩⟩
  · rw [row0, row2, earnsF, if_pos ⟨z1, z2, z3⟩, if_neg q]
  · rw [row0, row2, earnsF, if_pos ⟨z1, z2, z3⟩, if_pos q]
theorem c_X9_winner (hd : 7 ≤ d) (h : nC μ t n A S dy) : Ctr l D d yX9_winner cX9_winner 2 (some .int) [.ref (D.2.2 9 0), .int x1] μ (pI (fun v μ' => v = winnerF A (wtC μ t) dy S x1 ∧ cqF μ μ' ∧ jk μ')) := by
  have h5 := h.men
  have hdy := h.2.2.2.2.1
  have hA := h.2.2.1.2.1
  have hdt := dtp_pos (A := A) (dy := dy) hA.2.1
  have hb2 := hA.2.2.1
  refine en_X9_winner (fun Γ => bl_X9_winner_0 (by decide) ?_)
  rw [h.1, h.m7, nI_z (by omega), iw_lit (x := x1) (za := 0) (zb := 1) (by decide) (by decide)]
  refine ⟨by omega, fun z => ⟨by rw [winnerF, if_neg (fun w => z w.1)], cqF.rf, h.jk⟩, fun z1 => ⟨h.2.1, fun z2 => ⟨fun z3 => ?_, fun z3 => ?_⟩, fun z => ⟨by rw [winnerF, if_neg (fun w => w.2 z)], cqF.rf, h.jk⟩⟩⟩
  · have z1 := Decidable.not_not.mp z1
    refine ⟨6, _, by omega, c_X9_lookAtAll (by omega) h, ?_⟩
    rintro μ1 ⟨hF1, hn1, hw1, -, -, -⟩
    refine ⟨0, _, by omega, c_X9_daysToPot hn1, ?_⟩
    rintro v μ2 ⟨rfl, rfl⟩
    refine ⟨6, _, by omega, c_X9_passAsItGoes rfl (by omega) hn1 hw1 (by omega) (by omega), ?_⟩
    rintro μ3 ⟨hF2, hn2, hw2, h4⟩
    refine ⟨?_, hF1.tr hF2, hw2.2.2.2.2.1.2⟩
    rw [h4, wtC.cq hF1, winF_nxt hA.2.1, winnerF, if_pos ⟨z1, z2⟩, if_neg z3]
  · have z1 := Decidable.not_not.mp z1
    refine ⟨0, _, by omega, c_X9_daysToPot h, ?_⟩
    rintro v μ2 ⟨rfl, rfl⟩
    exact ⟨by rw [winnerF, if_pos ⟨z1, z2⟩, if_pos z3], cqF.rf, h.jk⟩
theorem winsWith_loop {Γ : gC} {q : Int32 → gMem → Prop} {S1 : pplS} {e m man : Nat} {μ0 : gMem} {w0 : Int32} (hd : 6 ≤ d) (h0 : nC μ0 t n A S dy) (he : e ≤ 2000) (hdm : dy + m ≤ 100000)
    (hq : ∀ μ', cqF μ0 μ' → jk μ' → q (bI (winF A (wtC μ0 t) w0 m dy S1 = nI man)) μ') :
    ∀ (c j : Nat) (μ : gMem), j + c = m → cqF μ0 μ → wC μ t n 2 A e (runF A (wtC μ0 t) j dy S1) (dy + j) → μ.1 8 2 4 = winF A (wtC μ0 t) w0 j dy S1 → pt_X9_winsWith_1 l D d q Γ 0 (nI man) (wtC μ0 t) (nI m) (nI j) μ := by
  intro c
  induction c with
  | zero =>
    intro j μ hj hF hw hwin
    obtain rfl : j = m := by omega
    have := hq μ hF hw.2.2.2.2.1.2
    refine bl_X9_winsWith_1 (by decide) ⟨fun _ => ?_, fun h => absurd (nI_le (Nat.le_refl _) (by omega)) h⟩
    rw [hwin]
    refine ⟨fun z => ?_, fun z => ?_⟩
    · rw [bI, if_neg z] at this
      exact this
    · rw [bI, if_pos z] at this
      exact this
  | succ c ih =>
    intro j μ hj hF hw hwin
    have e0 : μ.2.2 0 = t := by rw [hF.2.1]; exact h0.1
    refine bl_X9_winsWith_1 (by decide) ⟨fun h => absurd h (nI_ge (by omega) (by omega)), fun _ => ?_⟩
    rw [e0]
    refine ⟨h0.2.1, 5, _, by omega, d_X8_passDay (by omega) (by decide) h0.2.1 hw he (by omega), ?_⟩
    rintro μ1 ⟨hF1, hw1, -, h4⟩ _ rfl
    rw [nI_1]
    refine ih (j + 1) μ1 (by omega) (hF.tr hF1.cq) hw1 ?_
    rw [h4, hwin]
    rfl
theorem c_X9_winsWith {man k : Nat} (e1 : x1 = nI man) (e2 : x2 = nI k) (hd : 6 ≤ d) (h : nC μ t n A S dy) (hm : man < eMen A) (hk : k ≤ 999) : Ctr l D d yX9_winsWith cX9_winsWith 6 (some .boolean) [.ref (D.2.2 9 0), .int x1, .int x2] μ (pI (fun v μ' => v = bI (nxt A (wtC μ t) dy (addS S man k) = nI man) ∧ cqF μ μ' ∧ nC μ' t n A S dy)) := by
  subst e1 e2
  have h5 := h.men
  have hdy := h.2.2.2.2.1
  have hA := h.2.2.1.2.1
  have hdt := dtp_pos (A := A) (dy := dy) hA.2.1
  have hb2 := hA.2.2.1
  refine en_X9_winsWith (fun Γ => bl_X9_winsWith_0 (by decide) ⟨5, _, by omega, c_X9_lookAtAll (by omega) h, ?_⟩)
  rintro μ1 ⟨hF1, hn1, hw1, -, hr1, h4⟩
  refine ⟨man, by omega, rfl, ?_⟩
  have er : μ1.1 4 (5 * 2 + man) 4 = S man 4 := by rw [hw1.2.2.2.2.1.1 man (by omega)]
  rw [er]
  rintro μ2 e
  have hF2 : cqF μ1 μ2 := by rw [e]; exact cqF.rf.put (by omega)
  have hw2 : wC μ2 t n 2 A 999 (addS S man k) dy := by rw [e]; exact wC_set hw1 (by omega) (by omega) (okS_add hA h.2.2.1.2.2.2.2.2.1 hm hk)
  have hn2 := hn1.cq hF2 hw2.2.2.2.2.1.2
  have e4 : μ2.1 8 2 4 = -1 := by rw [e, gsI_off (by omega)]; exact h4
  rw [hn2.1]
  refine ⟨by omega, h.2.1, ?_⟩
  rintro _ rfl
  refine ⟨0, _, by omega, c_X9_daysToPot hn2, ?_⟩
  rintro v μ3 ⟨rfl, rfl⟩ _ rfl _ rfl
  refine winsWith_loop (μ0 := μ3) (S := S) (S1 := addS S man k) (w0 := -1) (e := 999) hd hn2 (by omega) (by omega) ?_ (dtp A dy) 0 μ3 (by omega) cqF.rf hw2 e4
  intro μ' a b
  have hFF := hF1.tr (hF2.tr a)
  refine ⟨?_, hFF, h.cq hFF b⟩
  rw [winF_nxt hA.2.1, wtC.cq (hF1.tr hF2)]
theorem oneByOne_loop {Γ : gC} {q : Int32 → gMem → Prop} {man : Nat} {μ0 : gMem} {v : Int32} (hd : 7 ≤ d) (hm : man < eMen A) (hq : ∀ μ', cqF μ0 μ' → jk μ' → q v μ') :
    ∀ (c k : Nat) (μ : gMem), k + c = 1000 → cqF μ0 μ → nC μ t n A S dy → needL A (wtC μ0 t) dy S man c k = v → pt_X9_neededOneByOne_1 l D d q Γ 0 (nI man) (nI k) μ := by
  have e9 : (999 : Int32) = nI 999 := rfl
  intro c
  induction c with
  | zero =>
    intro k μ hk hF hn hv
    refine bl_X9_neededOneByOne_1 (by decide) ⟨fun _ => ?_, fun z => absurd (by rw [e9]; exact nI_lt (by omega) (by omega)) z⟩
    rw [show (-2 : Int32) = v from hv]
    exact hq μ hF hn.jk
  | succ c ih =>
    intro k μ hk hF hn hv
    refine bl_X9_neededOneByOne_1 (by decide) ⟨fun z => absurd z (by rw [e9]; exact nI_nlt (by omega) (by omega)), fun _ => ⟨6, _, by omega, c_X9_winsWith rfl rfl (by omega) hn hm (by omega), ?_⟩⟩
    rintro v1 μ1 ⟨rfl, hF1, hn1⟩
    rw [wtC.cq hF]
    rw [needL] at hv
    by_cases hw : nxt A (wtC μ0 t) dy (addS S man k) = nI man
    · rw [if_pos hw] at hv
      rw [bI, if_pos hw]
      refine ⟨fun z => absurd z (by decide), fun _ => ?_⟩
      rw [hv]
      exact hq μ1 (hF.tr hF1) hn1.jk
    · rw [if_neg hw] at hv
      rw [bI, if_neg hw]
      refine ⟨fun _ => ?_, fun z => absurd rfl z⟩
      rintro _ rfl
      rw [nI_1]
      exact ih (k + 1) μ1 (by omega) (hF.tr hF1) hn1 hv
end Q3
/-! where none minds others, more never hurts -/
theorem pDay_4 {ev : Nat → Int32 → Int32 → Int32 → Option Int64} {bh : Int32 → Int32} {pr pc pu pn pf pls wet δ : Int32} {P P' : Nat → Int32} (hb : ∀ s s', bh s = bh s') (h : ∀ j, ¬ j = 4 → P' j = P j) (h4 : P' 4 = P 4 + δ) : (∀ j, ¬ j = 4 → pDay ev bh pr pc pu pn pf pls wet P' j = pDay ev bh pr pc pu pn pf pls wet P j) ∧ pDay ev bh pr pc pu pn pf pls wet P' 4 = pDay ev bh pr pc pu pn pf pls wet P 4 + δ := by
  have hpv : dPv ev bh pc pu wet P' = dPv ev bh pc pu wet P := by
    unfold dPv
    rw [h 10 (by omega), h 1 (by omega), h 9 (by omega), h 2 (by omega), hb (P' 4) (P 4)]
  have hw : ∀ pv, dW1 pc pr pls wet pv P' = dW1 pc pr pls wet pv P := by
    intro pv
    unfold dW1
    rw [h 10 (by omega), h 1 (by omega), h 9 (by omega), h 0 (by omega)]
  have hc : ∀ pv, dC1 pc pls wet pv P' = dC1 pc pls wet pv P := by
    intro pv
    unfold dC1
    rw [h 10 (by omega), h 1 (by omega), h 9 (by omega), h 0 (by omega)]
  have e0 : P' 0 = P 0 := h 0 (by omega)
  have e2 : P' 2 = P 2 := h 2 (by omega)
  refine ⟨fun j hj => ?_, ?_⟩
  · unfold pDay
    rw [hpv, hw, hc]
    unfold dEnd
    rw [e0, e2, h 1 (by omega), h 3 (by omega), h 5 (by omega), h 6 (by omega), h 7 (by omega), h 8 (by omega), h j hj, if_neg hj, if_neg hj, hb (P' 4) (P 4)]
    rw [hb (P' 4 + _) (P 4 + rulF (ev 2 (dC1 pc pls wet (dPv ev bh pc pu wet P) P) (dRow (P 0) (dC1 pc pls wet (dPv ev bh pc pu wet P) P) (P 2)) (bh (P 4))) 999 (imin (dC1 pc pls wet (dPv ev bh pc pu wet P) P) 999))]
  · unfold pDay
    rw [hpv, hw, hc]
    show P' 4 + rulF (ev 2 _ (dRow (P' 0) _ (P' 2)) (bh (P' 4))) 999 _ = (P 4 + rulF (ev 2 _ (dRow (P 0) _ (P 2)) (bh (P 4))) 999 _) + δ
    rw [e0, e2, hb (P' 4) (P 4), h4, Int32.add_assoc, Int32.add_assoc, Int32.add_comm δ]
/-- rows that differ in one sum alone -/
def sumR (man : Nat) (δ : Int32) (S' S : pplS) : Prop := (∀ p, ¬ p = man → S' p = S p) ∧ (∀ j, ¬ j = 4 → S' man j = S man j) ∧ S' man 4 = S man 4 + δ
theorem sumR_mid {A : wEnv} {man dy : Nat} {wet δ : Int32} {S' S : pplS} (hA : okA A) (hN : noBh A.1.1 A.1.2.1 A.1.2.2) (hm : man < eMen A) (h : sumR man δ S' S) : sumR man δ (midS A wet dy S') (midS A wet dy S) := by
  have key : ∀ p (T : pplS), eSt A wet dy p T = pDay (fun r cnt row b => evR A.1.1 A.1.2.1 A.1.2.2 r (nms (T p 1) (T p 0) cnt row 0 (nI dy))) (fun _ => 0) (A.2.2.2.1.1 p) (ePc A p) (A.2.2.2.1.2.2 p) A.2.2.1.1 A.2.2.1.2.1 A.2.2.2.2.2.1 wet (T p) := by
    intro p T
    unfold eSt stF
    refine pDay_ev (fun r hr cnt row b b' => ?_)
    refine evR_cong (fun n hn => ?_) hA.2.2.2.1 hN hr
    unfold nms
    simp [hn]
  refine ⟨fun p hp => ?_, ?_⟩
  · by_cases hpm : p < eMen A
    · obtain ⟨T1, a1, a2⟩ := mid_row (A := A) (wet := wet) (dy := dy) (S := S') hpm
      obtain ⟨T2, b1, b2⟩ := mid_row (A := A) (wet := wet) (dy := dy) (S := S) hpm
      rw [a2, b2, key, key, a1, b1, h.1 p hp]
    · rw [mid_out (by omega), mid_out (by omega), h.1 p hp]
  · obtain ⟨T1, a1, a2⟩ := mid_row (A := A) (wet := wet) (dy := dy) (S := S') hm
    obtain ⟨T2, b1, b2⟩ := mid_row (A := A) (wet := wet) (dy := dy) (S := S) hm
    rw [a2, b2]
    by_cases hon : eOn A man
    · rw [if_pos hon, if_pos hon, key, key, a1, b1, h.2.1 1 (by omega), h.2.1 0 (by omega)]
      exact pDay_4 (fun _ _ => rfl) h.2.1 h.2.2
    · rw [if_neg hon, if_neg hon]
      exact h.2
theorem sumR_run {A : wEnv} {man dy : Nat} {wet δ : Int32} {S' S : pplS} (hA : okA A) (hN : noBh A.1.1 A.1.2.1 A.1.2.2) (hm : man < eMen A) (h : sumR man δ S' S) : ∀ c, c + 1 ≤ dtp A dy → sumR man δ (runF A wet c dy S') (runF A wet c dy S) := by
  intro c
  induction c with
  | zero => intro _; exact h
  | succ c ih =>
    intro hc
    have hnd := dtp_not (A := A) (dy := dy) (c := c) hA.2.1 (by omega)
    have h1 := sumR_mid (wet := wet) (dy := dy + c) hA hN hm (ih (by omega))
    simp only [runF, stp]
    rw [if_neg hnd, if_neg hnd]
    exact h1
theorem ldF_more {f g : Nat → Int32} {gone : Int32} {man : Nat} (h1 : ∀ z, ¬ z = man → g z = f z) (h2 : (f man).toInt ≤ (g man).toInt) : ∀ (n i : Nat) (b b' : Option Nat), (∀ k, b = some k → k < i) → (b' = b ∨ (man < i ∧ ¬ b = some man)) → ldF f gone n i b = some man → ldF g gone n i b' = some man := by
  intro n
  induction n with
  | zero =>
    intro i b b' _ h hb
    rcases h with rfl | h
    · exact hb
    · exact absurd hb h.2
  | succ n ih =>
    intro i b b' hr h hb
    simp only [ldF] at hb ⊢
    by_cases hg : nI i = gone
    · rw [if_pos hg] at hb ⊢
      refine ih (i + 1) b b' (fun k hk => by have := hr k hk; omega) ?_ hb
      rcases h with h | h
      · exact Or.inl h
      · exact Or.inr ⟨by omega, h.2⟩
    · rw [if_neg hg] at hb ⊢
      have hr' : ∀ k, (match b with | none => some i | some k => if f i ≤ f k then some k else some i) = some k → k < i + 1 := by
        intro k hk
        cases b with
        | none => cases hk; omega
        | some z =>
          have := hr z rfl
          simp only at hk
          split at hk <;> (cases hk; omega)
      refine ih (i + 1) _ _ hr' ?_ hb
      rcases h with rfl | h
      · cases b' with
        | none => exact Or.inl rfl
        | some z =>
          have hz := hr z rfl
          simp only
          by_cases e1 : i = man
          · have e2 : ¬ z = man := by omega
            rw [h1 z e2, e1]
            by_cases c1 : f man ≤ f z
            · rw [if_pos c1]
              by_cases c2 : g man ≤ f z
              · rw [if_pos c2]; exact Or.inl rfl
              · exact Or.inr ⟨by omega, fun q => e2 (Option.some.inj q)⟩
            · have c2 : ¬ g man ≤ f z := by rw [i32_le] at c1 ⊢; omega
              rw [if_neg c1, if_neg c2]; exact Or.inl rfl
          · rw [h1 i e1]
            by_cases e2 : z = man
            · rw [e2]
              by_cases c1 : f i ≤ f man
              · have c2 : f i ≤ g man := by rw [i32_le] at c1 ⊢; omega
                rw [if_pos c1, if_pos c2]; exact Or.inl rfl
              · rw [if_neg c1]
                exact Or.inr ⟨by omega, fun q => e1 (Option.some.inj q)⟩
            · rw [h1 z e2]; exact Or.inl rfl
      · refine Or.inr ⟨by omega, ?_⟩
        cases b with
        | none => exact fun q => by have := Option.some.inj q; omega
        | some z =>
          simp only
          split
          · exact h.2
          · exact fun q => by have := Option.some.inj q; omega
theorem onI_eq {b : Option Nat} {k : Nat} (hk : k < 2 ^ 31) (hb : ∀ z, b = some z → z < 2 ^ 31) : onI b = nI k ↔ b = some k := by
  cases b with
  | none => exact ⟨fun z => absurd z.symm (nI_nm1 hk), fun z => by cases z⟩
  | some z =>
    have hz := hb z rfl
    refine ⟨fun q => ?_, fun q => by cases q; rfl⟩
    have q' : nI z = nI k := q
    rw [(nI_eq hz hk).mp q']
theorem need_mono {A : wEnv} {man dy a b : Nat} {wet : Int32} {S : pplS} (hA : okA A) (hN : noBh A.1.1 A.1.2.1 A.1.2.2) (hm : man < eMen A) (hS : okS A 0 S dy) (hdy : dy ≤ 9900) (hab : a ≤ b) (hb : b ≤ 999) (h : nxt A wet dy (addS S man a) = nI man) : nxt A wet dy (addS S man b) = nI man := by
  have h5 := hA.1
  have hdt := dtp_pos (A := A) (dy := dy) hA.2.1
  have hbd := hA.2.2.1
  have r0 : ∀ k, sumR man (nI k) (addS S man k) S := by
    intro k
    exact ⟨fun p hp => setS_r hp, fun j hj => setS_o (by omega), setS_s⟩
  have rm : ∀ k, sumR man (nI k) (midS A wet (dy + (dtp A dy - 1)) (runF A wet (dtp A dy - 1) dy (addS S man k))) (midS A wet (dy + (dtp A dy - 1)) (runF A wet (dtp A dy - 1) dy S)) := fun k => sumR_mid hA hN hm (sumR_run hA hN hm (r0 k) _ (by omega))
  have hok := okS_mid (A := A) (e := 0) (wet := wet) hA (by omega) (show dy + (dtp A dy - 1) < 100000 by omega) (okS_run (wet := wet) hA (by omega) hS (dtp A dy - 1) (by omega))
  have hb4 := hok.2.1 man (by omega)
  have hmod : (dy + (dtp A dy - 1)) % eBd A < 14 := by
    have := Nat.mod_lt (dy + (dtp A dy - 1)) hA.2.1
    omega
  have tk : ∀ k, k ≤ 999 → (midS A wet (dy + (dtp A dy - 1)) (runF A wet (dtp A dy - 1) dy (addS S man k)) man 4).toInt = (midS A wet (dy + (dtp A dy - 1)) (runF A wet (dtp A dy - 1) dy S) man 4).toInt + k := by
    intro k hk
    rw [(rm k).2.2, fb_addI (by rw [nI_toInt (by omega)]; omega) (by rw [nI_toInt (by omega)]; omega), nI_toInt (by omega)]
  unfold nxt wnr at h ⊢
  have rg : ∀ (f : Nat → Int32) z, ldF f (eGone A) (eMen A) 0 none = some z → z < 2 ^ 31 := by
    intro f z hz
    have := ldF_rng f (eGone A) (eMen A) 0 none (fun k hk => by cases hk) z hz
    omega
  rw [onI_eq (by omega) (rg _)] at h ⊢
  refine ldF_more (f := fun z => midS A wet (dy + (dtp A dy - 1)) (runF A wet (dtp A dy - 1) dy (addS S man a)) z 4) (fun z hz => ?_) ?_ (eMen A) 0 none none (fun k hk => by cases hk) (Or.inl rfl) h
  · show midS A wet _ _ z 4 = midS A wet _ _ z 4
    rw [(rm b).1 z hz, (rm a).1 z hz]
  · show (midS A wet _ _ man 4).toInt ≤ (midS A wet _ _ man 4).toInt
    rw [tk a (by omega), tk b (by omega)]
    omega
theorem needL_at {A : wEnv} {wet : Int32} {dy man : Nat} {S : pplS} : ∀ (c a h : Nat), (∀ j, a ≤ j → j < h → ¬ nxt A wet dy (addS S man j) = nI man) → nxt A wet dy (addS S man h) = nI man → a ≤ h → h < a + c → needL A wet dy S man c a = nI h := by
  intro c
  induction c with
  | zero => intro a h _ _ h1 h2; omega
  | succ c ih =>
    intro a h hn hy h1 h2
    rw [needL]
    by_cases e : a = h
    · subst e
      rw [if_pos hy]
    · rw [if_neg (hn a (by omega) (by omega))]
      exact ih (a + 1) h (fun j q1 q2 => hn j (by omega) q2) hy (by omega) (by omega)
theorem needL_no {A : wEnv} {wet : Int32} {dy man : Nat} {S : pplS} : ∀ (c a : Nat), (∀ j, a ≤ j → j < a + c → ¬ nxt A wet dy (addS S man j) = nI man) → needL A wet dy S man c a = -2 := by
  intro c
  induction c with
  | zero => intro a _; rfl
  | succ c ih =>
    intro a hn
    rw [needL, if_neg (hn a (by omega) (by omega))]
    exact ih (a + 1) (fun j q1 q2 => hn j (by omega) (by omega))
section Q3b
variable {l : Launch} {D : gD} {d : Nat} {μ : gMem} {t n dy : Nat} {A : wEnv} {S : pplS} {x1 x2 x3 : Int32}
theorem halves_loop {Γ : gC} {q : Int32 → gMem → Prop} {man : Nat} {μ0 : gMem} {v : Int32} (hd : 7 ≤ d) (hm : man < eMen A) (hN : noBh A.1.1 A.1.2.1 A.1.2.2) (hv : needL A (wtC μ0 t) dy S man 1000 0 = v) (hq : ∀ μ', cqF μ0 μ' → jk μ' → q v μ') :
    ∀ (c k lo hi : Nat) (μ : gMem), k + c = 12 → cqF μ0 μ → nC μ t n A S dy → lo ≤ hi → hi ≤ 999 → hi - lo < 2 ^ c → (∀ j, j < lo → ¬ nxt A (wtC μ0 t) dy (addS S man j) = nI man) → nxt A (wtC μ0 t) dy (addS S man hi) = nI man → pt_X9_neededByHalves_1 l D d q Γ 0 (nI man) (nI lo) (nI hi) (nI k) μ := by
  have e12 : (12 : Int32) = nI 12 := rfl
  have e2 : (2 : Int32) = nI 2 := rfl
  intro c
  induction c with
  | zero =>
    intro k lo hi μ hk hF hn h1 h2 h3 h4 h5
    have e : lo = hi := by omega
    subst e
    have hz : v = nI lo := by rw [← hv]; exact needL_at 1000 0 lo (fun j _ q2 => h4 j q2) h5 (by omega) (by omega)
    have := hq μ hF hn.jk
    rw [hz] at this
    exact bl_X9_neededByHalves_1 (by decide) ⟨fun _ => this, fun z => absurd (by rw [e12]; exact nI_le (by omega) (by omega)) z⟩
  | succ c ih =>
    intro k lo hi μ hk hF hn h1 h2 h3 h4 h5
    refine bl_X9_neededByHalves_1 (by decide) ⟨fun z => absurd z (by rw [e12]; exact nI_ge (by omega) (by omega)), fun _ => ⟨fun z => ?_, fun z => ?_⟩⟩
    · have z' := (nI_leI (by omega) (by omega)).mp z
      have e : lo = hi := by omega
      subst e
      have hz : v = nI lo := by rw [← hv]; exact needL_at 1000 0 lo (fun j _ q2 => h4 j q2) h5 (by omega) (by omega)
      have := hq μ hF hn.jk
      rw [hz] at this
      exact this
    · have z' : ¬ hi ≤ lo := fun w => z ((nI_leI (by omega) (by omega)).mpr w)
      rintro x5 e5
      rw [nI_add, e2, pk_div (by omega) (by omega) (by omega)] at e5
      have hpow : 2 ^ (c + 1) = 2 * 2 ^ c := by rw [Nat.pow_succ]; omega
      refine ⟨6, _, by omega, c_X9_winsWith rfl e5 (by omega) hn hm (by omega), ?_⟩
      rintro v1 μ1 ⟨rfl, hF1, hn1⟩
      rw [wtC.cq hF]
      by_cases hw : nxt A (wtC μ0 t) dy (addS S man ((lo + hi) / 2)) = nI man
      · rw [bI, if_pos hw]
        refine ⟨fun z => absurd z (by decide), fun _ => ?_⟩
        rintro _ rfl
        refine bl_X9_neededByHalves_2 (by decide) ?_
        rintro _ rfl
        rw [nI_1, e5]
        exact ih (k + 1) lo _ μ1 (by omega) (hF.tr hF1) hn1 (by omega) (by omega) (by omega) h4 hw
      · rw [bI, if_neg hw]
        refine ⟨fun _ => ?_, fun z => absurd rfl z⟩
        rintro _ rfl
        refine bl_X9_neededByHalves_2 (by decide) ?_
        rintro _ rfl
        rw [nI_1, e5, nI_1]
        refine ih (k + 1) ((lo + hi) / 2 + 1) hi μ1 (by omega) (hF.tr hF1) hn1 (by omega) (by omega) (by omega) (fun j hj hw2 => ?_) h5
        exact hw (need_mono hn.2.2.1.2.1 hN hm hn.2.2.1.2.2.2.2.2.1 hn.2.2.2.2.1 (by omega) (by omega) hw2)
theorem c_X9_needs (hd : 8 ≤ d) (h : nC μ t n A S dy) : Ctr l D d yX9_needs cX9_needs 2 (some .int) [.ref (D.2.2 9 0), .int x1] μ (pI (fun v μ' => v = needsF A (wtC μ t) dy S x1 ∧ cqF μ μ' ∧ jk μ')) := by
  have h5 := h.men
  refine en_X9_needs (fun Γ => bl_X9_needs_0 (by decide) ?_)
  rw [h.1, h.iw]
  refine ⟨by omega, h.2.1, fun z1 => ⟨h.2.1, by omega, h.2.2.1.1.2.2.2.1.2.1, fun hb => ?_, fun hb => ?_⟩, fun z => ⟨by rw [needsF, if_neg z], cqF.rf, h.jk⟩⟩
  · have z1 := Decidable.not_not.mp z1
    obtain ⟨m1, m2⟩ := isM_ix z1
    have hN := h.nobh hb
    refine ⟨7, fun v μ' => v = needsF A (wtC μ t) dy S x1 ∧ cqF μ μ' ∧ jk μ', by omega, en_X9_neededByHalves (fun Γ => bl_X9_neededByHalves_0 (by decide) ⟨6, _, by omega, c_X9_winsWith (k := 999) m1 rfl (by omega) h m2 (by omega), ?_⟩), fun v μ' hh => hh⟩
    rintro v1 μ1 ⟨rfl, hF1, hn1⟩
    by_cases hw : nxt A (wtC μ t) dy (addS S (ix x1) 999) = nI (ix x1)
    · rw [bI, if_pos hw]
      refine ⟨fun _ => ?_, fun z => absurd z (by decide)⟩
      rintro _ rfl _ rfl _ rfl
      have := halves_loop (l := l) (D := D) (d := 7) (Γ := Γ) (q := fun v μ' => v = needsF A (wtC μ t) dy S x1 ∧ cqF μ μ' ∧ jk μ') (t := t) (n := n) (A := A) (S := S) (dy := dy) (man := ix x1) (μ0 := μ) (v := needsF A (wtC μ t) dy S x1) (by omega) m2 hN (by rw [needsF, if_pos z1]) (fun μ' a b => ⟨rfl, a, b⟩) 12 0 0 999 μ1 (by omega) hF1 hn1 (by omega) (by omega) (by decide) (fun j hj => by omega) hw
      rw [← m1] at this
      exact this
    · rw [bI, if_neg hw]
      refine ⟨fun z => absurd rfl z, fun _ => ⟨?_, hF1, hn1.jk⟩⟩
      rw [needsF, if_pos z1, needL_no]
      intro j _ hj hw2
      exact hw (need_mono h.2.2.1.2.1 hN m2 h.2.2.1.2.2.2.2.2.1 h.2.2.2.2.1 (by omega) (by omega) hw2)
  · have z1 := Decidable.not_not.mp z1
    obtain ⟨m1, m2⟩ := isM_ix z1
    refine ⟨7, fun v μ' => v = needsF A (wtC μ t) dy S x1 ∧ cqF μ μ' ∧ jk μ', by omega, en_X9_neededOneByOne (fun Γ => bl_X9_neededOneByOne_0 (by decide) ?_), fun v μ' hh => hh⟩
    rintro _ rfl
    have := oneByOne_loop (l := l) (D := D) (d := 7) (Γ := Γ) (q := fun v μ' => v = needsF A (wtC μ t) dy S x1 ∧ cqF μ μ' ∧ jk μ') (t := t) (n := n) (A := A) (S := S) (dy := dy) (man := ix x1) (μ0 := μ) (v := needsF A (wtC μ t) dy S x1) (by omega) m2 (fun μ' a b => ⟨rfl, a, b⟩) 1000 0 μ (by omega) cqF.rf h (by rw [needsF, if_pos z1])
    rw [← m1] at this
    exact this
end Q3b
section Q3M
variable {l : Launch} {D : gD} {d : Nat} {μ : gMem} {n dy : Nat} {A : wEnv} {S : pplS} {x1 x2 x3 : Int32}
theorem c_X10_earns (hd : 7 ≤ d) (h : nM μ n A S dy) : Ctr l D d yX10_earns cX10_earns 5 (some .int) [.ref (D.2.2 10 0), .int x1, .int x2, .int x3] μ (pI (fun v μ' => v = earnsF A (wtM μ) dy S x1 x2 x3 ∧ mqF μ μ')) := by
  have h5 := h.men
  have hdy := h.2.2.1
  refine en_X10_earns (fun Γ => bl_X10_earns_0 (by decide) ?_)
  rintro μ1 rfl
  obtain ⟨hF0, h1⟩ := h.th
  rw [h1.isn, lt0, lt0, gtL (z := 60) (by decide), leL (z := 1) (by decide)]
  refine ⟨by omega, fun z => ⟨by rw [earnsF, if_neg (fun w => z w.1)], hF0⟩, fun z1 => ⟨fun z => ⟨by rw [earnsF, if_neg (fun w => by have := w.2.1; omega)], hF0⟩, fun z2 => ⟨fun z => ⟨by rw [earnsF, if_neg (fun w => by have := w.2.1; omega)], hF0⟩, fun z3 => ⟨fun z => ⟨by rw [earnsF, if_neg (fun w => by have := w.2.2; omega)], hF0⟩, fun z4 => ⟨fun z5 => ?_, fun z => ⟨by rw [earnsF, if_neg (fun w => by have := w.2.2; omega)], hF0⟩⟩⟩⟩⟩⟩
  have z1 := Decidable.not_not.mp z1
  have y2 : inR x2 0 60 := by omega
  have y3 : inR x3 0 1 := by omega
  obtain ⟨m1, m2⟩ := isM_ix z1
  obtain ⟨n1, n2⟩ := inR_ix (b := 60) y2
  refine ⟨6, _, by omega, c_X10_runs n1 (by omega) h1.1 (by omega) (by omega) (by omega), ?_⟩
  rintro μ2 ⟨hF2, hw2⟩ _ rfl
  rw [wtM.mq hF0] at hw2
  have hF := hF0.tr hF2
  have hn2 := h1.mq hF2
  have ei : (5 : Int32) + x1 = nI (5 + ix x1) := by
    have := ix5c (ix x1)
    rw [← m1] at this
    exact this
  rw [earnsF, if_pos ⟨z1, y2, y3⟩]
  refine ⟨fun q => ⟨_, by omega, ei, ix x1, by omega, m1, ?_, hF⟩, fun q => ⟨_, by omega, ei, ix x1, by omega, m1, ?_, hF⟩⟩
  · rw [if_neg q, ← hw2.at m2 (j := 8) (by omega), ← hn2.row m2 (j := 8) (by omega)]; rfl
  · rw [if_pos q, ← hw2.at m2 (j := 7) (by omega), ← hn2.row m2 (j := 7) (by omega)]; rfl
theorem c_X10_winner (hd : 7 ≤ d) (h : nM μ n A S dy) : Ctr l D d yX10_winner cX10_winner 3 (some .int) [.ref (D.2.2 10 0), .int x1] μ (pI (fun v μ' => v = winnerF A (wtM μ) dy S x1 ∧ mqF μ μ')) := by
  have h5 := h.men
  have hdy := h.2.2.1
  have hA := h.1.2.1
  have hdt := dtp_pos (A := A) (dy := dy) hA.2.1
  have hb2 := hA.2.2.1
  refine en_X10_winner (fun Γ => bl_X10_winner_0 (by decide) ?_)
  rintro μ1 rfl
  obtain ⟨hF0, h1⟩ := h.th
  rw [h1.1.1.1, nI_z (by omega), lt0, gtL (z := 1) (by decide)]
  refine ⟨fun z => ⟨by rw [winnerF, if_neg (fun w => by have := w.1; omega)], hF0⟩, fun z1 => ⟨fun z => ⟨by rw [winnerF, if_neg (fun w => by have := w.1; omega)], hF0⟩, fun z2 => ⟨fun z3 => ?_, fun z => ⟨by rw [winnerF, if_neg (fun w => w.2 z)], hF0⟩⟩⟩⟩
  have y1 : inR x1 0 1 := by omega
  refine ⟨6, _, by omega, c_X10_copies (a := 1) (b := 0) (by decide) (by decide) (by decide), ?_⟩
  rintro _ rfl
  refine ⟨6, _, by omega, c_X10_winsFrom (e := 0) (by omega) (mcp_wM h1.1) (by omega) (by omega) (fun dy S => wnr_ne h.2.1 hA (by omega) _ dy S), ?_⟩
  rintro v μ2 ⟨rfl, hF2, hw2⟩ _ rfl
  have hF := hF0.tr (mcp_mq.tr hF2)
  have hn2 := h.mq hF
  rw [winnerF, if_pos ⟨y1, z3⟩, wtM.mq (hF0.tr mcp_mq)]
  have e10 : (1 : Int32).toInt = 1 := by decide
  refine ⟨fun q => ⟨?_, hF⟩, fun q => ⟨?_, hF⟩⟩
  · have q1 : x1 = 1 := by
      apply Int32.toInt_inj.mp
      have : ¬ x1.toInt = 0 := fun w => q (Int32.toInt_inj.mp (by rw [w, i32_0]))
      rw [e10]
      omega
    rw [if_pos q1, hw2.2.2.2.2.2.2, hn2.1.2.2.2.2.2.2, pk_sub (by omega), show dy + dtp A dy - dy = dtp A dy by omega]
  · rw [if_neg (by rw [q]; decide)]
theorem needsM_loop {Γ : gC} {q : Int32 → gMem → Prop} {man : Nat} {μ0 : gMem} {v : Int32} (hd : 7 ≤ d) (hm : man < eMen A) (hq : ∀ μ', mqF μ0 μ' → q v μ') :
    ∀ (c k : Nat) (μ : gMem), k + c = 1000 → mqF μ0 μ → nM μ n A S dy → needL A (wtM μ0) dy S man c k = v → pt_X10_needs_1 l D d q Γ 0 (nI man) (nI k) μ := by
  have e9 : (999 : Int32) = nI 999 := rfl
  intro c
  induction c with
  | zero =>
    intro k μ hk hF hn hv
    refine bl_X10_needs_1 (by decide) ⟨fun _ => ?_, fun z => absurd (by rw [e9]; exact nI_lt (by omega) (by omega)) z⟩
    rw [show (-2 : Int32) = v from hv]
    exact hq μ hF
  | succ c ih =>
    intro k μ hk hF hn hv
    have h5 := hn.men
    have hA := hn.1.2.1
    have hdy := hn.2.2.1
    refine bl_X10_needs_1 (by decide) ⟨fun z => absurd z (by rw [e9]; exact nI_nlt (by omega) (by omega)), fun _ => ⟨6, _, by omega, c_X10_copies (a := 1) (b := 0) (by decide) (by decide) (by decide), ?_⟩⟩
    rintro _ rfl
    refine ⟨5 + man, by omega, ix5c man, 5 + man, by omega, ix5c man, ?_⟩
    have hw1 := mcp_wM (a := 1) hn.1
    have a1 : (mcp μ 1 0).1 744 0 (5 + man) = S man 4 := hw1.at hm (j := 4) (by omega)
    rw [a1]
    rintro μ2 e2
    have hF2 : mqF μ μ2 := by rw [e2]; exact mcp_mq.put (by omega)
    have hw2 : wM μ2 n 1 A 999 (addS S man k) dy := by rw [e2]; exact wM_set (j := 4) hw1 rfl (by omega) hm (by omega) (okS_add hA hn.1.2.2.2.2.2.1 hm (by omega))
    refine ⟨6, _, by omega, c_X10_winsFrom (by omega) hw2 (by omega) (by omega) (fun dy S => wnr_ne hn.2.1 hA (by omega) _ dy S), ?_⟩
    rintro v1 μ3 ⟨rfl, hF3, -⟩
    have hFF := hF.tr (hF2.tr hF3)
    rw [wtM.mq (hF.tr hF2)]
    rw [needL] at hv
    refine ⟨fun z => ?_, fun z => ?_⟩
    · rintro _ rfl
      rw [if_neg z] at hv
      rw [nI_1]
      exact ih (k + 1) μ3 (by omega) hFF (hn.mq (hF2.tr hF3)) hv
    · rw [if_pos z] at hv
      rw [hv]
      exact hq μ3 hFF
theorem c_X10_needs (hd : 7 ≤ d) (h : nM μ n A S dy) : Ctr l D d yX10_needs cX10_needs 3 (some .int) [.ref (D.2.2 10 0), .int x1] μ (pI (fun v μ' => v = needsF A (wtM μ) dy S x1 ∧ mqF μ μ')) := by
  refine en_X10_needs (fun Γ => bl_X10_needs_0 (by decide) ?_)
  rintro μ1 rfl
  obtain ⟨hF0, h1⟩ := h.th
  rw [h1.isn]
  refine ⟨by omega, fun z1 => ?_, fun z => ⟨by rw [needsF, if_neg z], hF0⟩⟩
  have z1 := Decidable.not_not.mp z1
  obtain ⟨m1, m2⟩ := isM_ix z1
  rintro _ rfl
  have := needsM_loop (l := l) (D := D) (d := d) (Γ := Γ) (q := fun v μ' => v = needsF A (wtM μ) dy S x1 ∧ mqF μ μ') (n := n) (A := A) (S := S) (dy := dy) (man := ix x1) (μ0 := gsI μ 10 0 0 0) (v := needsF A (wtM μ) dy S x1) hd m2 (fun μ' a => ⟨rfl, hF0.tr a⟩) 1000 0 _ (by omega) mqF.rf h1 (by rw [wtM.mq hF0, needsF, if_pos z1])
  rw [← m1] at this
  exact this
end Q3M
