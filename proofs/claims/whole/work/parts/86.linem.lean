/-! LINES: small readers of the reference -/
def rwF (μ μ' : gMem) : Prop := (∀ k j, ¬ (k = 10 ∧ j = 0) → μ'.1 k j = μ.1 k j) ∧ (∀ j, ¬ (20 ≤ j ∧ j ≤ 25) → μ'.1 10 0 j = μ.1 10 0 j) ∧ μ'.2 = μ.2 ∧ kf μ μ'
theorem rwF.rf {μ : gMem} : rwF μ μ := ⟨fun _ _ _ => rfl, fun _ _ => rfl, rfl, kf.rf⟩
theorem rwF.tr {μ μ1 μ2 : gMem} (h : rwF μ μ1) (h2 : rwF μ1 μ2) : rwF μ μ2 := ⟨fun k j a => (h2.1 k j a).trans (h.1 k j a), fun j a => (h2.2.1 j a).trans (h.2.1 j a), h2.2.2.1.trans h.2.2.1, h.2.2.2.tr h2.2.2.2⟩
theorem nkM.w {μ μ' : gMem} (h : nkM μ μ') : rwF μ μ' := ⟨h.1, fun j a => h.2.1 j (by omega), h.2.2, kf.of (fun j hj => h.2.1 j (by omega))⟩
/-- the reference stands at p, no fault -/
def rlM (lg : Nat → Int32) (tb : Nat → Nat) (L : Nat) (μ : gMem) (p : Nat) : Prop := tkM tb L μ ∧ μ.1 10 0 24 = 0 ∧ p ≤ L ∧ atM lg tb L p μ
/-- what a reader of the reference leaves -/
def rsM (lg : Nat → Int32) (tb : Nat → Nat) (L : Nat) (R : rsL Int32) (v : Int32) (μ' : gMem) : Prop := match R with | .inl (k, q) => flM μ' k q | .inr (a, q) => v = a ∧ rlM lg tb L μ' q
section LM
variable {l : Launch} {D : gD} {d : Nat} {μ : gMem} {lg : Nat → Int32} {tb : Nat → Nat} {L p : Nat}
theorem w_wrong {x : Int32} (hx : ¬ x = 0) (h : rlM lg tb L μ p) : Ctr l D d yX10_wrong cX10_wrong 2 none [.ref (D.2.2 10 0), .int x] μ (pV (fun μ' => rwF μ μ' ∧ flM μ' x p)) := by
  refine en_X10_wrong (fun Γ => bl_X10_wrong_0 (by decide) ⟨fun _ => ?_, fun z => absurd h.2.1 z⟩)
  rintro μ2 e2 μ3 e3
  refine ⟨⟨fun k j hk => by rw [e3, gsI_off (by omega), e2, gsI_off (by omega)], fun j hj => by rw [e3, gsI_at, if_neg (by omega), e2, gsI_at, if_neg (by omega)], by rw [e3, e2]; rfl, fun z => absurd ((show μ3.1 10 0 24 = x by rw [e3, gsI_at, if_neg (by omega), e2, gsI_s]).symm.trans z) hx⟩, hx, by rw [e3, gsI_at, if_neg (by omega), e2, gsI_s], by rw [e3, gsI_s, e2, gsI_at, if_neg (by omega)]; exact h.2.2.2.2.1⟩
theorem rlM.tk {μ' : gMem} (h : rlM lg tb L μ p) (N : nkM μ μ') (a : atM lg tb L (nxP lg tb L p) μ') : rlM lg tb L μ' (nxP lg tb L p) := ⟨h.1.of N, by rw [N.2.1 24 (by omega)]; exact h.2.1, nxP_le h.2.2.1, a⟩
theorem isN2 (h : atM lg tb L p μ) : (μ.1 10 0 22 = 2 ↔ tkK lg tb L p = 34) ∧ (μ.1 10 0 22 = 1 ↔ tkK lg tb L p = 35) ∧ (μ.1 10 0 22 = 4 ↔ tkK lg tb L p = 36) := by
  have h22 : μ.1 10 0 22 = sortK (tkK lg tb L p) := h.2.2.1
  have so : ∀ i, i < 34 → (¬ sortK (nI i) = 2 ∧ ¬ nI i = 34) ∧ (¬ sortK (nI i) = 1 ∧ ¬ nI i = 35) ∧ ¬ sortK (nI i) = 4 ∧ ¬ nI i = 36 := by decide
  rw [h22]
  rcases tk_val (lg := lg) (tb := tb) (L := L) (p := p) with ⟨i, hi, e, ev⟩ | ⟨i, h1, h2, e, ev⟩ | e | e | e | e
  · obtain ⟨⟨a, b⟩, ⟨c, f⟩, g, k⟩ := so i (by omega)
    rw [e]; exact ⟨⟨fun z => absurd z a, fun z => absurd z b⟩, ⟨fun z => absurd z c, fun z => absurd z f⟩, fun z => absurd z g, fun z => absurd z k⟩
  · obtain ⟨⟨a, b⟩, ⟨c, f⟩, g, k⟩ := so i (by omega)
    rw [e]; exact ⟨⟨fun z => absurd z a, fun z => absurd z b⟩, ⟨fun z => absurd z c, fun z => absurd z f⟩, fun z => absurd z g, fun z => absurd z k⟩
  · rw [e]; decide
  · rw [e]; decide
  · rw [e]; decide
  · rw [e]; decide
theorem nam_val (h : tkK lg tb L p = 35) : (tkF lg tb L p).2.2.2 = tkV lg tb L p := by
  unfold tkK at h
  unfold tkV
  revert h
  unfold tkF
  by_cases h0 : p < L
  · rw [if_neg (fun z => z h0)]
    by_cases h1 : ltr (tb p)
    · rw [if_pos h1]
      intro h
      have h : (if 6 < runE ltr tb L p - p then (37 : Int32) else if tkW lg tb p (runE ltr tb L p) = -1 then 35 else tkW lg tb p (runE ltr tb L p)) = 35 := h
      show (if tkW lg tb p (runE ltr tb L p) = -1 then (if 6 < runE ltr tb L p - p then -1 else nI (wv tb p (runE ltr tb L p) 6)) else tkW lg tb p (runE ltr tb L p)) = nI (wv tb p (runE ltr tb L p) 6)
      by_cases h6 : 6 < runE ltr tb L p - p
      · rw [if_pos h6] at h; exact absurd h (by decide)
      · rw [if_neg h6] at h
        by_cases hw : tkW lg tb p (runE ltr tb L p) = -1
        · rw [if_pos hw, if_neg h6]
        · rw [if_neg hw] at h
          have := fndL_rng (f := lg) (x := nI (wv tb p (runE ltr tb L p) 6)) 21 0
          unfold tkW at hw h
          rw [if_neg h6] at hw h
          rcases this with w | ⟨j, -, hj, e, -⟩
          · exact absurd w hw
          · rw [e] at h
            have := (nI_eq (b := 35) (by omega) (by omega)).mp h
            omega
    · rw [if_neg h1]
      by_cases h2 : dgs (tb p)
      · rw [if_pos h2]
        intro h
        exact absurd h (show ¬ (34 : Int32) = 35 by decide)
      · rw [if_neg h2]
        intro h
        exfalso
        have h : sgK (tb p) (nxB tb L (p + 1)) = 35 := h
        revert h
        unfold sgK
        repeat' split
        all_goals decide
  · rw [if_pos h0]
    intro h
    exact absurd h (show ¬ (36 : Int32) = 35 by decide)
theorem n_numeral {x1 x2 : Int32} (h : ¬ μ.1 10 0 24 = 0) : Ctr l D d yX10_numeral cX10_numeral 4 (some .int) [.ref (D.2.2 10 0), .int x1, .int x2] μ (pI (fun v μ' => v = x1 ∧ μ' = μ)) := en_X10_numeral (fun Γ => bl_X10_numeral_0 (by decide) ⟨fun z => absurd z h, fun _ => ⟨rfl, rfl⟩⟩)
theorem c_X10_numeral {x1 x2 : Int32} {lo hi : Nat} (hd : 3 ≤ d) (hWd : WordC l D lg) (h1 : x1 = nI lo) (h2 : x2 = nI hi) (hlh : lo ≤ hi) (hh : hi ≤ 99999) (h : rlM lg tb L μ p) : Ctr l D d yX10_numeral cX10_numeral 4 (some .int) [.ref (D.2.2 10 0), .int x1, .int x2] μ (pI (fun v μ' => rwF μ μ' ∧ rsM lg tb L (nuR lg tb L lo hi p) v μ')) := by
  subst h1 h2
  have hat := h.2.2.2
  refine en_X10_numeral (fun Γ => bl_X10_numeral_0 (by decide) ⟨fun _ => ?_, fun z => absurd h.2.1 z⟩)
  rw [(isN2 hat).1]
  have bad : ∀ μ' k q, rwF μ μ' → flM μ' k q → nuR lg tb L lo hi p = .inl (k, q) → pt_X10_numeral_2 l D d (fun v μ' => rwF μ μ' ∧ rsM lg tb L (nuR lg tb L lo hi p) v μ') Γ 0 (nI lo) μ' := by
    intro μ' k q F fl e
    refine bl_X10_numeral_2 (by decide) ⟨fun z => absurd (fl.2.1.symm.trans z) fl.1, fun _ => ⟨F, ?_⟩⟩
    rw [e]
    exact fl
  refine ⟨fun e34 => ?_, fun z => ⟨0, _, by omega, w_wrong (x := 1) (by decide) h, ?_⟩⟩
  · obtain ⟨a, b, ea, eb, hab⟩ := num_val e34
    have ev : μ.1 10 0 23 = nI b := by
      rw [← eb]
      exact hat.2.2.2 (fun z => by have : tkK lg tb L p = 36 := z; rw [e34] at this; exact absurd this (by decide)) (fun z => by have : tkK lg tb L p = 37 := z; rw [e34] at this; exact absurd this (by decide))
    have hb : a ≤ 1000000 ∧ b ≤ 1000000 := by unfold numR at hab; omega
    rw [ev, nI_ltI (by omega) (by omega), nI_leI (by omega) (by omega)]
    have one : ¬ (lo ≤ b ∧ b ≤ hi) → pt_X10_numeral_1 l D d (fun v μ' => rwF μ μ' ∧ rsM lg tb L (nuR lg tb L lo hi p) v μ') Γ 0 (nI lo) μ := by
      intro w
      refine bl_X10_numeral_1 (by decide) ⟨0, _, by omega, w_wrong (x := 2) (by decide) h, ?_⟩
      rintro μ5 ⟨F5, f5⟩
      refine bad μ5 2 p F5 f5 ?_
      rw [nuR, if_pos e34, if_neg (fun z => ?_)]
      have z1 := z.1
      have z2 := z.2
      rw [ea, nI_toInt (by omega)] at z1 z2
      unfold numR at hab
      omega
    refine ⟨fun w => one (by omega), fun w => ⟨fun w2 => ?_, fun w2 => one (by omega)⟩⟩
    have eab : a = b := by unfold numR at hab; omega
    refine bl_X10_numeral_2 (by decide) ⟨fun _ => ?_, fun z => absurd h.2.1 z⟩
    rintro x3 ex
    refine ⟨2, _, by omega, c_token (by omega) hWd h.1 h.2.2.1 hat, ?_⟩
    rintro μ7 ⟨N, a7⟩
    refine ⟨N.w, ?_⟩
    rw [nuR, if_pos e34, if_pos (show inR (tkV lg tb L p) lo hi by unfold inR; rw [ea, nI_toInt (by omega)]; omega)]
    exact ⟨by rw [ex, ev, ea, eab], h.tk N a7⟩
  · rintro μ9 ⟨F9, f9⟩
    exact bad μ9 1 p F9 f9 (by rw [nuR, if_neg z])
end LM
