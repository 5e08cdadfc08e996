/-! THE FORMULA of the class -/
theorem str_0 {k : Int32} (h : str k < 1) : k = 31 := by
  by_cases e : k = 31
  · exact e
  · exfalso
    unfold str at h
    revert h
    repeat' split
    all_goals first | omega | (intro h; contradiction)
theorem rel1_top : ∀ (W : List Int32) (c : cdT) (f : Nat), 0 < cnO W → ∃ W', (rel 1 W c f).1 = 31 :: W' := by
  intro W
  induction W with
  | nil => intro c f h; exact absurd h (by decide)
  | cons k W ih =>
    intro c f h
    rw [rel]
    by_cases hs : 1 ≤ str k
    · rw [if_pos hs]
      refine ih _ _ ?_
      rw [cnO, if_neg (str_31 hs)] at h
      omega
    · rw [if_neg hs]
      exact ⟨W, by rw [str_0 (k := k) (by omega)]⟩
theorem rel1_nil : ∀ (W : List Int32) (c : cdT) (f : Nat), cnO W = 0 → (rel 1 W c f).1 = [] := by
  intro W
  induction W with
  | nil => intro c f h; rfl
  | cons k W ih =>
    intro c f h
    rw [cnO] at h
    have n31 : ¬ k = 31 := fun w => by rw [if_pos w] at h; omega
    rw [rel, if_pos (by
      by_cases w : 1 ≤ str k
      · exact w
      · exact absurd (str_0 (by omega)) n31)]
    exact ih _ _ (by omega)
theorem imax_n {a b : Nat} (ha : a < 2 ^ 31) (hb : b < 2 ^ 31) : imax (nI a) (nI b) = nI (max a b) := by
  unfold imax
  by_cases h : a < b
  · rw [if_pos ((nI_ltI ha hb).mpr h), Nat.max_eq_right (by omega)]
  · rw [if_neg (fun w => h ((nI_ltI ha hb).mp w)), Nat.max_eq_left (by omega)]
section SC2
variable {l : Launch} {D : gD} {d : Nat} {μ : gMem} {t : Nat} {c : cdT} {f n : Nat} {W : List Int32} {cm : Nat → Bool} {o : Nat} {w nm : Bool}
theorem lwC.of {μ' : gMem} (h : lwC μ t c f) (h2 : ∀ k, k = 2 ∨ k = 192 ∨ k = 193 → μ'.1 k t = μ.1 k t) : lwC μ' t c f := by
  unfold lwC
  rw [h2 2 (by omega), h2 192 (by omega), h2 193 (by omega)]
  exact h
theorem c_X1_takeOpen (hd : 1 ≤ d) (h : fmC μ t W cm o w nm c f n) (ho : o < 8) (hl : W.length < 72) : Ctr l D d yX1_takeOpen cX1_takeOpen 1 none [.ref (D.2.2 1 0)] μ (pV (fun μ' => fmF t μ μ' ∧ fmC μ' t (31 :: W) (upB cm (o + 1) false) (o + 1) w true c f n)) := by
  obtain ⟨⟨h1, hr⟩, h3, h130, h4, h5, hL, h7⟩ := h
  refine en_X1_takeOpen (fun Γ => bl_X1_takeOpen_0 (by decide) ?_)
  rintro μ1 e1
  rw [h3, nI_1] at e1
  have s3 : μ1.1 1 0 3 = nI (o + 1) := by rw [e1, gsI_s]
  refine ⟨o + 1, by omega, s3, ?_⟩
  rw [nar0]
  rintro μ3 e3
  have F3 : fmF t μ μ3 := by rw [e3, e1]; exact (fmF.rf.p0 (by omega)).p0 (by omega)
  have g1 : ∀ j, ¬ j = 3 → μ3.1 1 0 j = μ.1 1 0 j := fun j hj => by rw [e3, gsI_off (by omega), e1, gsI_at, if_neg (by omega)]
  have g3 : μ3.1 1 0 3 = nI (o + 1) := by rw [e3, gsI_off (by omega)]; exact s3
  have go : ∀ k j, ¬ ((k = 1 ∨ k = 130) ∧ j = 0) → μ3.1 k j = μ.1 k j := fun k j hk => by rw [e3, gsI_off (by omega), e1, gsI_off (by omega)]
  have g130 : ∀ j, μ3.1 130 0 j = if j = o + 1 then 0 else μ.1 130 0 j := fun j => by
    rw [e3, gsI_row]
    show (if j = o + 1 then (0 : Int32) else μ1.1 130 0 j) = _
    rw [e1, gsI_off (by omega)]
  clear e1 e3
  refine ⟨0, _, by omega, c_X1_hold (t := t) (W := W) (by rw [g1 1 (by omega)]; exact h1) (by rw [go 128 0 (by omega)]; exact hr) hl, ?_⟩
  rintro μ8 ⟨F8, k8, o8, s8, r8⟩ μ9 e9
  have p9 : ∀ k j, ¬ (k = 1 ∧ j = 0) → μ9.1 k j = μ8.1 k j := fun k j hk => by rw [e9, gsI_off (by omega)]
  have q9 : ∀ j, ¬ j = 5 → μ9.1 1 0 j = μ8.1 1 0 j := fun j hj => by rw [e9, gsI_at, if_neg (by omega)]
  refine ⟨by rw [e9]; exact (F3.tr F8).p0 (by omega), ⟨by rw [q9 1 (by omega)]; exact s8, by rw [p9 128 0 (by omega)]; exact r8⟩, by rw [q9 3 (by omega), k8 3 (by omega)]; exact g3, fun j hj => ?_, by rw [q9 4 (by omega), k8 4 (by omega), g1 4 (by omega)]; exact h4, by rw [e9, gsI_s]; rfl, hL.of (fun k hk => by rw [p9 k t (by omega), o8 k t (by omega), go k t (by omega)]), by rw [p9 2 t (by omega), o8 2 t (by omega), go 2 t (by omega)]; exact h7⟩
  rw [p9 130 0 (by omega), o8 130 0 (by omega), g130, upB]
  by_cases e : j = o + 1
  · rw [if_pos e, if_pos e]; rfl
  · rw [if_neg e, if_neg e]; exact h130 j (by omega)
theorem c_X1_takeClose (hd : 2 ≤ d) (ht : t < 2) (h : fmC μ t W cm o w nm c f n) (hK : fmK W o f n) (ho : 0 < o) : Ctr l D d yX1_takeClose cX1_takeClose 2 none [.ref (D.2.2 1 0), .ref (D.2.2 2 t)] μ (pV (fun μ' => fmF t μ μ' ∧ fmC μ' t (rel 1 W c f).1.tail cm (o - 1) w nm (rel 1 W c f).2.1 (rel 1 W c f).2.2 n)) := by
  obtain ⟨⟨h1, hr⟩, h3, h130, h4, h5, hL, h7⟩ := h
  obtain ⟨k1, k2, k3, k4, k5⟩ := hK
  have hlen := cn_len W
  obtain ⟨W', eW⟩ := rel1_top W c f (by omega)
  have hrc := rel_cn (s := 1) (by omega) W c f
  refine en_X1_takeClose (fun Γ => bl_X1_takeClose_0 (by decide) ht ⟨1, _, by omega, c_X1_release (s := 1) (W := W) rfl ht (by omega) (by omega) (by omega) (by omega) (by omega) k5 h1 hr hL, ?_⟩)
  rintro μ5 ⟨F5, p5, q5, s7, s1, r5, L5⟩
  refine ⟨by omega, ?_⟩
  rw [eW] at s1 r5 hrc ⊢
  have hl' : W'.length + 1 ≤ W.length := hrc.2.2.2
  have s1' : μ5.1 1 0 1 = nI (W'.length + 1) := s1
  have em : imax (0 : Int32) (μ5.1 1 0 1 - (1 : Int32)) = nI W'.length := by
    rw [s1', nI_pred, show (0 : Int32) = nI 0 from rfl, imax_n (by omega) (by omega), Nat.max_eq_right (by omega)]
  rw [em]
  rintro μ9 e9
  have g3 : μ9.1 1 0 3 = nI o := by rw [e9, gsI_at, if_neg (by omega), p5 3 (by omega)]; exact h3
  have e3 : μ9.1 1 0 3 - (1 : Int32) = nI (o - 1) := by rw [g3, show (1 : Int32) = nI 1 from rfl, pk_sub (by omega)]
  rw [e3]
  rintro μ10 e10
  have g : ∀ j, ¬ j = 1 → ¬ j = 3 → μ10.1 1 0 j = μ.1 1 0 j := fun j a b => by rw [e10, gsI_at, if_neg (by omega), e9, gsI_at, if_neg (by omega)]; exact p5 j a
  have go : ∀ k j, ¬ (k = 1 ∧ j = 0) → μ10.1 k j = μ5.1 k j := fun k j hk => by rw [e10, gsI_off (by omega), e9, gsI_off (by omega)]
  refine ⟨by rw [e10, e9]; exact (F5.p0 (by omega)).p0 (by omega), ⟨by rw [e10, gsI_at, if_neg (by omega), e9, gsI_s]; rfl, by rw [go 128 0 (by omega)]; exact rwC_pop r5⟩, by rw [e10, gsI_s], fun j hj => by rw [go 130 0 (by omega), q5]; exact h130 j (by omega), by rw [g 4 (by omega) (by omega)]; exact h4, by rw [g 5 (by omega) (by omega)]; exact h5, L5.of (fun k hk => go k t (by omega)), by rw [go 2 t (by omega), s7]; exact h7⟩
theorem takeSign_1 {Γ : gC} {q : gMem → Prop} {x1 : Int32} (hd : 2 ≤ d) (h : fmC μ t W cm o w nm c f n) (hl : W.length < 72) (ho : o ≤ 8) (hq : ∀ μ', fmF t μ μ' → fmC μ' t (x1 :: W) (cmN cm o x1) o true (decide (str x1 ≤ 3)) c f n → q μ') : pt_X1_takeSign_1 l D d q Γ 0 x1 μ := by
  obtain ⟨⟨h1, hr⟩, h3, h130, h4, h5, hL, h7⟩ := h
  refine bl_X1_takeSign_1 (by decide) ⟨0, _, by omega, c_X1_hold (t := t) (W := W) h1 hr hl, ?_⟩
  rintro μ5 ⟨F5, k5, o5, s5, r5⟩ μ8 e8
  have F8 : fmF t μ μ8 := by rw [e8]; exact F5.p0 (by omega)
  have g8 : ∀ j, ¬ j = 1 → ¬ j = 4 → μ8.1 1 0 j = μ.1 1 0 j := fun j a b => by rw [e8, gsI_at, if_neg (by omega)]; exact k5 j a
  have s8 : μ8.1 1 0 4 = 1 := by rw [e8, gsI_s]
  have w8 : μ8.1 1 0 1 = nI (x1 :: W).length := by rw [e8, gsI_at, if_neg (by omega)]; exact s5
  have o8 : ∀ k j, ¬ (k = 1 ∧ j = 0) → μ8.1 k j = μ5.1 k j := fun k j hk => by rw [e8, gsI_off (by omega)]
  clear e8
  refine ⟨by omega, by omega, ?_⟩
  have h6 := str_le x1
  rw [strn_n, strn_n, show str 13 = 3 by decide, nI_ltI (by omega) (by omega)]
  have fin : ∀ v : Int32, v = bB (decide (str x1 ≤ 3)) → pt_X1_takeSign_2 l D d q Γ 0 x1 0 v μ8 := by
    intro v hv
    refine bl_X1_takeSign_2 (by decide) (by decide) ⟨by rw [hv]; unfold bB; split; exact Or.inr rfl; exact Or.inl rfl, ?_⟩
    rintro μ1 e1
    have F1 : fmF t μ μ1 := by rw [e1]; exact F8.p0 (by omega)
    have g1 : ∀ j, ¬ j = 5 → μ1.1 1 0 j = μ8.1 1 0 j := fun j hj => by rw [e1, gsI_at, if_neg (by omega)]
    have s1 : μ1.1 1 0 5 = bB (decide (str x1 ≤ 3)) := by rw [e1, gsI_s, hv]
    have o1 : ∀ k j, ¬ (k = 1 ∧ j = 0) → μ1.1 k j = μ5.1 k j := fun k j hk => by rw [e1, gsI_off (by omega), o8 k j hk]
    clear e1
    have a3 : μ1.1 1 0 3 = nI o := by rw [g1 3 (by omega), g8 3 (by omega) (by omega)]; exact h3
    have base : ∀ μ2 : gMem, fmF t μ1 μ2 → (∀ k j, ¬ (k = 130 ∧ j = 0) → μ2.1 k j = μ1.1 k j) → (∀ j, j ≤ o → μ2.1 130 0 j = bB (cmN cm o x1 j)) → q μ2 := by
      intro μ2 F2 k2 c2
      refine hq μ2 (F1.tr F2) ⟨⟨by rw [k2 1 0 (by omega), g1 1 (by omega)]; exact w8, by rw [k2 128 0 (by omega), o1 128 0 (by omega)]; exact r5⟩, by rw [k2 1 0 (by omega)]; exact a3, c2, by rw [k2 1 0 (by omega), g1 4 (by omega)]; exact s8, by rw [k2 1 0 (by omega)]; exact s1, hL.of (fun k hk => by rw [k2 k t (by omega), o1 k t (by omega), o5 k t (by omega)]), by rw [k2 2 t (by omega), o1 2 t (by omega), o5 2 t (by omega)]; exact h7⟩
    have c130 : ∀ j, j ≤ o → μ1.1 130 0 j = bB (cm j) := fun j hj => by rw [o1 130 0 (by omega), o5 130 0 (by omega)]; exact h130 j hj
    refine ⟨by omega, ?_⟩
    rw [iw_lit (za := 21) (zb := 26) (by decide) (by decide), s1, bB_0]
    have put : ∀ b : Bool, cmN cm o x1 = upB cm o b → ∃ j_9 : Nat, j_9 < 9 ∧ μ1.1 1 0 3 = nI j_9 ∧ (∀ μ_10 : gMem, μ_10 = gsI μ1 130 0 j_9 (bB b) → q μ_10) := by
      intro b hb
      refine ⟨o, by omega, a3, ?_⟩
      rintro μ2 e2
      refine base μ2 (by rw [e2]; exact fmF.rf.p0 (by omega)) (fun k j hk => by rw [e2, gsI_off (by omega)]) (fun j hj => ?_)
      rw [e2, gsI_row, hb, upB]
      show (if j = o then bB b else μ1.1 130 0 j) = _
      by_cases e : j = o
      · rw [if_pos e, if_pos e]
      · rw [if_neg e, if_neg e]; exact c130 j hj
    refine ⟨fun z => ⟨fun z2 => ?_, fun z2 => ?_⟩, fun z => ?_⟩
    · refine base μ1 fmF.rf (fun _ _ _ => rfl) (fun j hj => ?_)
      rw [cmN, if_neg z, if_neg (of_decide_eq_false z2)]
      exact c130 j hj
    · have z3 : str x1 ≤ 3 := by
        by_cases w : str x1 ≤ 3
        · exact w
        · exact absurd (decide_eq_false w) z2
      exact put false (by rw [cmN, if_neg z, if_pos z3])
    · exact put true (by rw [cmN, if_pos (Decidable.not_not.mp z)])
  refine ⟨fun z => fin 0 (by rw [decide_eq_false (by omega)]; rfl), fun z => fin 1 (by rw [decide_eq_true (by omega)]; rfl)⟩
theorem c_X1_takeSign {x1 : Int32} (hd : 3 ≤ d) (ht : t < 2) (h : fmC μ t W cm o w nm c f n) (hc : f + cnS W + 1 ≤ 64) (hO : cnO W = o) (ho : o ≤ 8) (hg : wSg W) (h31 : ¬ x1 = 31) : Ctr l D d yX1_takeSign cX1_takeSign 3 none [.ref (D.2.2 1 0), .int x1, .ref (D.2.2 2 t)] μ (pV (fun μ' => fmF t μ μ' ∧ (x1 = 13 → fmC μ' t (13 :: W) (cmN cm o 13) o true true c f n) ∧ (¬ x1 = 13 → fmC μ' t (x1 :: (rel (str x1) W c f).1) (cmN cm o x1) o true (decide (str x1 ≤ 3)) (rel (str x1) W c f).2.1 (rel (str x1) W c f).2.2 n))) := by
  have hlen := cn_len W
  have h1 : 1 ≤ str x1 := by
    by_cases w : 1 ≤ str x1
    · exact w
    · exact absurd (str_0 (by omega)) h31
  refine en_X1_takeSign (fun Γ => bl_X1_takeSign_0 (by decide) ht ⟨fun z => ?_, fun z => ⟨by omega, ?_⟩⟩)
  · refine takeSign_1 (by omega) h (by omega) ho (fun μ' F h' => ⟨F, fun _ => ?_, fun w => absurd z w⟩)
    rw [z] at h'
    exact h'
  · obtain ⟨⟨a1, hr⟩, a3, a130, a4, a5, aL, a7⟩ := h
    refine ⟨1, _, by omega, c_X1_release (s := str x1) (W := W) (strn_n x1) ht (by omega) h1 (str_le x1) (by omega) (by omega) hg a1 hr aL, ?_⟩
    rintro μ5 ⟨F5, p5, q5, s7, s1, r5, L5⟩
    have hrc := rel_cn h1 W c f
    exact takeSign_1 (t := t) (by omega) ⟨⟨s1, r5⟩, by rw [p5 3 (by omega)]; exact a3, fun j hj => by rw [q5]; exact a130 j hj, by rw [p5 4 (by omega)]; exact a4, by rw [p5 5 (by omega)]; exact a5, L5, by rw [s7]; exact a7⟩ (by omega) ho (fun μ' F h' => ⟨F5.tr F, fun w => absurd w z, fun _ => h'⟩)
end SC2
