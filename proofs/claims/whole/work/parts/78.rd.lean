/-! THE FORMULA of the reference: small steps; nothing happens behind a fault -/
/-- no fault now: none before, its place as it was -/
def kf (μ μ' : gMem) : Prop := μ'.1 10 0 24 = 0 → μ.1 10 0 24 = 0 ∧ μ'.1 10 0 25 = μ.1 10 0 25
theorem kf.rf {μ : gMem} : kf μ μ := fun z => ⟨z, rfl⟩
theorem kf.tr {μ μ1 μ2 : gMem} (h : kf μ μ1) (h2 : kf μ1 μ2) : kf μ μ2 := fun z => ⟨(h (h2 z).1).1, (h2 z).2.trans (h (h2 z).1).2⟩
theorem kf.of {μ μ' : gMem} (h : ∀ j, j = 24 ∨ j = 25 → μ'.1 10 0 j = μ.1 10 0 j) : kf μ μ' := fun z => ⟨(h 24 (Or.inl rfl)).symm.trans z, h 25 (Or.inr rfl)⟩
def rdF (μ μ' : gMem) : Prop := (∀ k j, ¬ (j = 0 ∧ (k = 10 ∨ k = 707 ∨ k = 719 ∨ k = 720)) → μ'.1 k j = μ.1 k j) ∧ (∀ j, ¬ (20 ≤ j ∧ j ≤ 25) → ¬ j = 28 → ¬ j = 29 → μ'.1 10 0 j = μ.1 10 0 j) ∧ (∀ j, ¬ j = 19 → μ'.1 707 0 j = μ.1 707 0 j) ∧ (∀ j, j < 64 → μ'.1 719 0 j = μ.1 719 0 j ∧ μ'.1 720 0 j = μ.1 720 0 j) ∧ μ'.2 = μ.2 ∧ kf μ μ'
theorem rdF.rf {μ : gMem} : rdF μ μ := ⟨fun _ _ _ => rfl, fun _ _ _ _ => rfl, fun _ _ => rfl, fun _ _ => ⟨rfl, rfl⟩, rfl, kf.rf⟩
theorem rdF.tr {μ μ1 μ2 : gMem} (h : rdF μ μ1) (h2 : rdF μ1 μ2) : rdF μ μ2 := ⟨fun k j a => (h2.1 k j a).trans (h.1 k j a), fun j a b c => (h2.2.1 j a b c).trans (h.2.1 j a b c), fun j a => (h2.2.2.1 j a).trans (h.2.2.1 j a), fun j a => ⟨(h2.2.2.2.1 j a).1.trans (h.2.2.2.1 j a).1, (h2.2.2.2.1 j a).2.trans (h.2.2.2.1 j a).2⟩, h2.2.2.2.2.1.trans h.2.2.2.2.1, h.2.2.2.2.2.tr h2.2.2.2.2.2⟩
theorem nkM.d {μ μ' : gMem} (h : nkM μ μ') : rdF μ μ' := ⟨fun k j a => h.1 k j (by omega), fun j a _ _ => h.2.1 j (by omega), fun j _ => by rw [h.1 707 0 (by omega)], fun j _ => by rw [h.1 719 0 (by omega), h.1 720 0 (by omega)]; exact ⟨rfl, rfl⟩, h.2.2, kf.of (fun j hj => h.2.1 j (by omega))⟩
theorem rdF.p10 {μ μ1 : gMem} {j : Nat} {v : Int32} (h : rdF μ μ1) (hj : (20 ≤ j ∧ j ≤ 23) ∨ j = 28 ∨ j = 29) : rdF μ (gsI μ1 10 0 j v) := h.tr ⟨fun k j a => gsI_off (by omega), fun a b c e => by rw [gsI_at, if_neg (by omega)], fun a _ => by rw [gsI_off (by omega)], fun a _ => by rw [gsI_off (by omega), gsI_off (by omega)]; exact ⟨rfl, rfl⟩, rfl, kf.of (fun a ha => by rw [gsI_at, if_neg (by omega)])⟩
theorem rdF.p19 {μ μ1 : gMem} {v : Int32} (h : rdF μ μ1) : rdF μ (gsI μ1 707 0 19 v) := h.tr ⟨fun k j a => gsI_off (by omega), fun a b c e => by rw [gsI_off (by omega)], fun a _ => by rw [gsI_at, if_neg (by omega)], fun a _ => by rw [gsI_off (by omega), gsI_off (by omega)]; exact ⟨rfl, rfl⟩, rfl, kf.of (fun a ha => by rw [gsI_off (by omega)])⟩
theorem rdF.pk {μ μ1 : gMem} {k j : Nat} {v : Int32} (h : rdF μ μ1) (hk : k = 719 ∨ k = 720) (hj : 64 ≤ j) : rdF μ (gsI μ1 k 0 j v) := h.tr ⟨fun k j a => gsI_off (by omega), fun a b c e => by rw [gsI_off (by omega)], fun a _ => by rw [gsI_off (by omega)], fun a _ => by rw [gsI_at, if_neg (by omega), gsI_at, if_neg (by omega)]; exact ⟨rfl, rfl⟩, rfl, kf.of (fun a ha => by rw [gsI_off (by omega)])⟩
/-- the reference within a formula, no fault -/
def rmM (lg : Nat → Int32) (tb : Nat → Nat) (L : Nat) (μ : gMem) (p : Nat) (cf : cdT × Nat) (o n : Nat) : Prop := tkM tb L μ ∧ μ.1 10 0 24 = 0 ∧ atM lg tb L p μ ∧ μ.1 10 0 28 = nI o ∧ μ.1 10 0 29 = nI n ∧ μ.1 707 0 19 = nI cf.2 ∧ ∀ i, i < cf.2 → cf.1 i = (μ.1 719 0 (64 + i), μ.1 720 0 (64 + i))
def flM (μ : gMem) (k : Int32) (p : Nat) : Prop := ¬ k = 0 ∧ μ.1 10 0 24 = k ∧ μ.1 10 0 25 = nI p
section RD
variable {l : Launch} {D : gD} {d : Nat} {μ : gMem} {lg : Nat → Int32} {tb : Nat → Nat} {L : Nat} {p o n : Nat} {cf : cdT × Nat}
theorem n_wrong {x : Int32} (h : ¬ μ.1 10 0 24 = 0) : Ctr l D d yX10_wrong cX10_wrong 2 none [.ref (D.2.2 10 0), .int x] μ (pV (fun μ' => μ' = μ)) := en_X10_wrong (fun Γ => bl_X10_wrong_0 (by decide) ⟨fun z => absurd z h, fun _ => rfl⟩)
theorem k_wrong {x : Int32} (hx : ¬ x = 0) (h : rmM lg tb L μ p cf o n) : Ctr l D d yX10_wrong cX10_wrong 2 none [.ref (D.2.2 10 0), .int x] μ (pV (fun μ' => rdF μ μ' ∧ flM μ' x p)) := by
  refine en_X10_wrong (fun Γ => bl_X10_wrong_0 (by decide) ⟨fun _ => ?_, fun z => absurd h.2.1 z⟩)
  rintro μ2 e2 μ3 e3
  have s24 : μ3.1 10 0 24 = x := by rw [e3, gsI_at, if_neg (by omega), e2, gsI_s]
  exact ⟨⟨fun k j hk => by rw [e3, gsI_off (by omega), e2, gsI_off (by omega)], fun j a b c => by rw [e3, gsI_at, if_neg (by omega), e2, gsI_at, if_neg (by omega)], fun j _ => by rw [e3, gsI_off (by omega), e2, gsI_off (by omega)], fun j _ => by rw [e3, gsI_off (by omega), gsI_off (by omega), e2, gsI_off (by omega), gsI_off (by omega)]; exact ⟨rfl, rfl⟩, by rw [e3, e2]; rfl, fun z => absurd (s24.symm.trans z) hx⟩, hx, s24, by rw [e3, gsI_s, e2, gsI_at, if_neg (by omega)]; exact h.2.2.1.2.1⟩
theorem n_knot (h : ¬ μ.1 10 0 24 = 0) : Ctr l D d yX10_knot cX10_knot 1 none [.ref (D.2.2 10 0)] μ (pV (fun μ' => μ' = μ)) := en_X10_knot (fun Γ => bl_X10_knot_0 (by decide) ⟨fun z => absurd z h, fun _ => rfl⟩)
theorem c_X10_knot (hd : 1 ≤ d) (hn : n ≤ 64) (h : rmM lg tb L μ p cf o n) : Ctr l D d yX10_knot cX10_knot 1 none [.ref (D.2.2 10 0)] μ (pV (fun μ' => rdF μ μ' ∧ (n = 64 → flM μ' 2 p) ∧ (¬ n = 64 → rmM lg tb L μ' p cf o (n + 1)))) := by
  obtain ⟨hT, h24, hat, h28, h29, h19, hc⟩ := h
  refine en_X10_knot (fun Γ => bl_X10_knot_0 (by decide) ⟨fun _ => ?_, fun z => absurd h24 z⟩)
  rw [h29, show (64 : Int32) = nI 64 from rfl, nI_eq (by omega) (by omega), nI_1]
  refine ⟨fun z => ?_, fun z => ⟨0, _, by omega, k_wrong (x := 2) (by decide) ⟨hT, h24, hat, h28, h29, h19, hc⟩, ?_⟩⟩
  · rintro μ3 e3
    have g : ∀ j, ¬ j = 29 → μ3.1 10 0 j = μ.1 10 0 j := fun j hj => by rw [e3, gsI_at, if_neg (by omega)]
    have o3 : ∀ k j, ¬ (k = 10 ∧ j = 0) → μ3.1 k j = μ.1 k j := fun k j hk => by rw [e3, gsI_off (by omega)]
    refine ⟨by rw [e3]; exact rdF.rf.p10 (by omega), fun w => absurd w z, fun _ => ⟨⟨by rw [g 19 (by omega)]; exact hT.1, hT.2.1, by rw [o3 705 0 (by omega)]; exact hT.2.2⟩, by rw [g 24 (by omega)]; exact h24, ?_, by rw [g 28 (by omega)]; exact h28, by rw [e3, gsI_s], by rw [o3 707 0 (by omega)]; exact h19, by rw [o3 719 0 (by omega), o3 720 0 (by omega)]; exact hc⟩⟩
    unfold atM
    rw [g 20 (by omega), g 21 (by omega), g 22 (by omega), g 23 (by omega)]
    exact hat
  · rintro μ8 ⟨F8, f8⟩
    exact ⟨F8, fun _ => f8, fun w => absurd z w⟩
theorem n_goOn (h : ¬ μ.1 10 0 24 = 0) : Ctr l D d yX10_goOn cX10_goOn 1 none [.ref (D.2.2 10 0)] μ (pV (fun μ' => μ' = μ)) := en_X10_goOn (fun Γ => bl_X10_goOn_0 (by decide) ⟨fun _ => rfl, fun z => absurd z h⟩)
theorem rmM.tk {μ' : gMem} {p' : Nat} (h : rmM lg tb L μ p cf o n) (hF : nkM μ μ') (ha : atM lg tb L p' μ') : rmM lg tb L μ' p' cf o n := by
  obtain ⟨hT, h24, hat, h28, h29, h19, hc⟩ := h
  exact ⟨hT.of hF, by rw [hF.2.1 24 (by omega)]; exact h24, ha, by rw [hF.2.1 28 (by omega)]; exact h28, by rw [hF.2.1 29 (by omega)]; exact h29, by rw [hF.1 707 0 (by omega)]; exact h19, by rw [hF.1 719 0 (by omega), hF.1 720 0 (by omega)]; exact hc⟩
theorem c_X10_goOn (hd : 3 ≤ d) (hW : WordC l D lg) (hp : p ≤ L) (h : rmM lg tb L μ p cf o n) : Ctr l D d yX10_goOn cX10_goOn 1 none [.ref (D.2.2 10 0)] μ (pV (fun μ' => rdF μ μ' ∧ rmM lg tb L μ' (nxP lg tb L p) cf o n)) := by
  refine en_X10_goOn (fun Γ => bl_X10_goOn_0 (by decide) ⟨fun z => absurd h.2.1 z, fun _ => ⟨2, _, by omega, c_token (by omega) hW h.1 hp h.2.2.1, ?_⟩⟩)
  rintro μ' ⟨F, a⟩
  exact ⟨F.d, h.tk F a⟩
theorem n_puts {x1 x2 : Int32} (h : ¬ μ.1 10 0 24 = 0) : Ctr l D d yX10_puts cX10_puts 3 none [.ref (D.2.2 10 0), .int x1, .int x2] μ (pV (fun μ' => μ' = μ)) := en_X10_puts (fun Γ => bl_X10_puts_0 (by decide) ⟨fun z => absurd z h, fun _ => rfl⟩)
theorem c_X10_puts {x1 x2 : Int32} (hd : 1 ≤ d) (hf : cf.2 < 64) (h : rmM lg tb L μ p cf o n) : Ctr l D d yX10_puts cX10_puts 3 none [.ref (D.2.2 10 0), .int x1, .int x2] μ (pV (fun μ' => rdF μ μ' ∧ rmM lg tb L μ' p (upC cf.1 cf.2 (x1, x2), cf.2 + 1) o n)) := by
  obtain ⟨hT, h24, hat, h28, h29, h19, hc⟩ := h
  have ej : (64 : Int32) + μ.1 707 0 19 = nI (64 + cf.2) := by rw [h19]; exact nI_add 64 cf.2
  refine en_X10_puts (fun Γ => bl_X10_puts_0 (by decide) ⟨fun _ => ⟨by omega, 64 + cf.2, by omega, ej, ?_⟩, fun z => absurd h24 z⟩)
  rintro μ7 e7
  have g7 : μ7.1 707 0 19 = nI cf.2 := by rw [e7, gsI_off (by omega)]; exact h19
  refine ⟨by omega, 64 + cf.2, by omega, by rw [g7]; exact nI_add 64 cf.2, ?_⟩
  rintro μ13 e13
  have g13 : μ13.1 707 0 19 = nI cf.2 := by rw [e13, gsI_off (by omega)]; exact g7
  rw [g13, nI_1]
  refine ⟨by omega, by omega, ?_⟩
  rintro μ20 e20
  have g : ∀ k j, ¬ (j = 0 ∧ (k = 707 ∨ k = 719 ∨ k = 720)) → μ20.1 k j = μ.1 k j := fun k j hk => by rw [e20, gsI_off (by omega), e13, gsI_off (by omega), e7, gsI_off (by omega)]
  refine ⟨by rw [e20, e13, e7]; exact ((rdF.rf.pk (by omega) (by omega)).pk (by omega) (by omega)).p19, ⟨by rw [g 10 0 (by omega)]; exact hT.1, hT.2.1, by rw [g 705 0 (by omega)]; exact hT.2.2⟩, by rw [g 10 0 (by omega)]; exact h24, by unfold atM; rw [g 10 0 (by omega)]; exact hat, by rw [g 10 0 (by omega)]; exact h28, by rw [g 10 0 (by omega)]; exact h29, by rw [e20, gsI_s], fun i hi => ?_⟩
  have hi : i < cf.2 + 1 := hi
  have b1 : μ20.1 719 0 (64 + i) = if i = cf.2 then x1 else μ.1 719 0 (64 + i) := by
    rw [e20, gsI_off (by omega), e13, gsI_off (by omega), e7, gsI_at]
    by_cases e : i = cf.2
    · rw [if_pos ⟨rfl, rfl, by omega⟩, if_pos e]
    · rw [if_neg (by omega), if_neg e]
  have b2 : μ20.1 720 0 (64 + i) = if i = cf.2 then x2 else μ.1 720 0 (64 + i) := by
    rw [e20, gsI_off (by omega), e13, gsI_at]
    by_cases e : i = cf.2
    · rw [if_pos ⟨rfl, rfl, by omega⟩, if_pos e]
    · rw [if_neg (by omega), if_neg e, e7, gsI_off (by omega)]
  show upC cf.1 cf.2 (x1, x2) i = _
  rw [b1, b2, upC]
  by_cases e : i = cf.2
  · rw [if_pos e, if_pos e, if_pos e]
  · rw [if_neg e, if_neg e, if_neg e]; exact hc i (by omega)
theorem nfb {x y : Int32} (h : ¬ μ.1 10 0 24 = 0) : bI (μ.1 10 0 24 = 0 ∧ μ.1 10 0 22 = x ∧ μ.1 10 0 23 = y) = 0 := by
  rw [bI, if_neg (fun w => h w.1)]
theorem n_primary (h : ¬ μ.1 10 0 24 = 0) : Ctr l D d yX10_primary cX10_primary 2 none [.ref (D.2.2 10 0)] μ (pV (fun μ' => μ' = μ)) := en_X10_primary (fun Γ => bl_X10_primary_0 (by decide) ⟨fun z => absurd z h, fun _ => rfl⟩)
theorem n_product (hd : 1 ≤ d) (h : ¬ μ.1 10 0 24 = 0) : Ctr l D d yX10_product cX10_product 2 none [.ref (D.2.2 10 0)] μ (pV (fun μ' => μ' = μ)) := by
  refine en_X10_product (fun Γ => bl_X10_product_0 (by decide) ⟨0, _, by omega, n_primary h, ?_⟩)
  rintro μ1 e
  rw [e]
  exact bl_X10_product_1 (by decide) ⟨by omega, fun z => absurd (nfb h) z, fun _ => ⟨by omega, fun _ => rfl, fun z => absurd (nfb h) z⟩⟩
theorem n_sum (hd : 2 ≤ d) (h : ¬ μ.1 10 0 24 = 0) : Ctr l D d yX10_sum cX10_sum 2 none [.ref (D.2.2 10 0)] μ (pV (fun μ' => μ' = μ)) := by
  refine en_X10_sum (fun Γ => bl_X10_sum_0 (by decide) ⟨1, _, by omega, n_product (by omega) h, ?_⟩)
  rintro μ1 e
  rw [e]
  exact bl_X10_sum_1 (by decide) ⟨by omega, fun z => absurd (nfb h) z, fun _ => ⟨by omega, fun _ => rfl, fun z => absurd (nfb h) z⟩⟩
theorem n_negation (hd : 3 ≤ d) (h : ¬ μ.1 10 0 24 = 0) : Ctr l D d yX10_negation cX10_negation 2 none [.ref (D.2.2 10 0)] μ (pV (fun μ' => μ' = μ)) := by
  refine en_X10_negation (fun Γ => bl_X10_negation_0 (by decide) ⟨by omega, fun _ => ⟨2, _, by omega, n_sum (by omega) h, ?_⟩, fun z => absurd (nfb h) z⟩)
  rintro μ1 e
  rw [e]
  exact ⟨fun _ => rfl, fun z => absurd z h⟩
theorem n_conjunction (hd : 4 ≤ d) (h : ¬ μ.1 10 0 24 = 0) : Ctr l D d yX10_conjunction cX10_conjunction 1 none [.ref (D.2.2 10 0)] μ (pV (fun μ' => μ' = μ)) := by
  refine en_X10_conjunction (fun Γ => bl_X10_conjunction_0 (by decide) ⟨3, _, by omega, n_negation (by omega) h, ?_⟩)
  rintro μ1 e
  rw [e]
  exact bl_X10_conjunction_1 (by decide) ⟨by omega, fun _ => rfl, fun z => absurd (nfb h) z⟩
end RD
