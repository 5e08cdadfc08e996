/-! LINES of the reference: steps behind a fault or not -/
theorem bI_z {c : Prop} [Decidable c] : bI c = 0 ↔ ¬ c := by
  unfold bI
  by_cases h : c
  · rw [if_pos h]; exact ⟨fun z => absurd z (by decide), fun z => absurd h z⟩
  · rw [if_neg h]; exact ⟨fun _ => h, fun _ => rfl⟩
/-- stands at the place of R, or has its fault -/
def stM {α : Type} (lg : Nat → Int32) (tb : Nat → Nat) (L : Nat) (μ : gMem) (R : rsL α) : Prop := match R with | .inl (k, q) => flM μ k q | .inr (_, q) => rlM lg tb L μ q
/-- laws told so far -/
def dfL (δ : dfT) : Prop := ∀ r, r < 3 → δ.2.2.2.2.1.2.2.1 r ≤ δ.2.2.2.2.1.2.1 ∧ δ.2.2.2.2.1.2.2.2 r ≤ δ.2.2.2.2.1.2.1 ∧ (δ.2.2.2.2.1.2.2.1 r < δ.2.2.2.2.1.2.2.2 r → dpn δ.2.2.2.2.1.1 (δ.2.2.2.2.1.2.2.2 r - δ.2.2.2.2.1.2.2.1 r) (δ.2.2.2.2.1.2.2.1 r) 0 = some 1)
def okD (δ : dfT) : Prop := dfB δ ∧ dfR δ ∧ dfL δ
/-- what stands when a line but for its end is read -/
def lnH (lg : Nat → Int32) (tb : Nat → Nat) (L p : Nat) (R : rsL dfT) (μ : gMem) : Prop := match R with | .inl (k, q) => flM μ k q | .inr (δ', q) => rlM lg tb L μ q ∧ dfM μ δ' ∧ p < q ∧ okD δ'
/-- what stands behind a line -/
def lmR (lg : Nat → Int32) (tb : Nat → Nat) (L p n : Nat) (R : rsL dfT) (μ : gMem) : Prop := match R with | .inl (k, q) => flM μ k q | .inr (δ', q) => rlM lg tb L μ q ∧ dfM μ δ' ∧ p < q ∧ okD δ' ∧ μ.1 10 0 18 = nI (n + 1)
section ML
variable {l : Launch} {D : gD} {d : Nat} {μ μ0 μ1 : gMem} {lg : Nat → Int32} {tb : Nat → Nat} {L p n : Nat} {δ : dfT} {Γ : gC}
theorem rsM.st {R : rsL Int32} {v : Int32} (h : rsM lg tb L R v μ) : stM lg tb L μ R := by
  rcases R with ⟨k, q⟩ | ⟨a, q⟩
  · exact h
  · exact h.2
theorem flM.of {μ' : gMem} {k : Int32} {q : Nat} (h : flM μ k q) (h10 : ∀ j, j = 24 ∨ j = 25 → μ'.1 10 0 j = μ.1 10 0 j) : flM μ' k q := ⟨h.1, (h10 24 (by omega)).trans h.2.1, (h10 25 (by omega)).trans h.2.2⟩
theorem flM.nz {k : Int32} {q : Nat} (h : flM μ k q) : ¬ μ.1 10 0 24 = 0 := fun z => h.1 (h.2.1.symm.trans z)
theorem rlM.of {μ' : gMem} {q : Nat} (h : rlM lg tb L μ q) (h10 : ∀ j, j = 19 ∨ (20 ≤ j ∧ j ≤ 24) → μ'.1 10 0 j = μ.1 10 0 j) (h705 : μ'.1 705 0 = μ.1 705 0) : rlM lg tb L μ' q := by
  obtain ⟨⟨a1, a2, a3⟩, b, c, e⟩ := h
  refine ⟨⟨by rw [h10 19 (by omega)]; exact a1, a2, by rw [h705]; exact a3⟩, by rw [h10 24 (by omega)]; exact b, c, ?_⟩
  unfold atM
  rw [h10 20 (by omega), h10 21 (by omega), h10 22 (by omega), h10 23 (by omega)]
  exact e
theorem stM.put {α : Type} {R : rsL α} {k j : Nat} {v : Int32} (h : stM lg tb L μ R) (hk : 706 ≤ k) : stM lg tb L (gsI μ k 0 j v) R := by
  rcases R with ⟨k, q⟩ | ⟨a, q⟩
  · exact flM.of h (fun j _ => by rw [gsI_off (by omega)])
  · exact rlM.of h (fun j _ => by rw [gsI_off (by omega)]) (by rw [gsI_off (by omega)])
theorem e_numeral {α : Type} {R : rsL α} {x1 x2 : Int32} {lo hi : Nat} (hd : 3 ≤ d) (hWd : WordC l D lg) (h1 : x1 = nI lo) (h2 : x2 = nI hi) (hlh : lo ≤ hi) (hh : hi ≤ 99999) (h : stM lg tb L μ R) : Ctr l D d yX10_numeral cX10_numeral 4 (some .int) [.ref (D.2.2 10 0), .int x1, .int x2] μ (pI (fun v μ' => rwF μ μ' ∧ rsM lg tb L (bnd R fun _ q => nuR lg tb L lo hi q) v μ')) := by
  rcases R with ⟨k, q⟩ | ⟨a, q⟩
  · have h : flM μ k q := h
    exact en_X10_numeral (fun Γ => bl_X10_numeral_0 (by decide) ⟨fun z => absurd z h.nz, fun _ => ⟨rwF.rf, h⟩⟩)
  · exact c_X10_numeral hd hWd h1 h2 hlh hh h
theorem dfM.sc {said' : Nat → Bool} (h : dfM μ δ) (hs : ∀ w, 3 ≤ w → w ≤ 6 → δ.2.2.2.2.2 w = said' w) : dfM μ (δ.1, δ.2.1, δ.2.2.1, δ.2.2.2.1, δ.2.2.2.2.1, said') := by
  obtain ⟨a, b, c, f, g, B, hB, eB, b1, b2⟩ := h
  exact ⟨a, b, c, f, g, B, hB, eB, fun w h1 h2 => (b1 w h1 h2).trans (hs w h1 h2), b2⟩
theorem line_3 {R : rsL dfT} (hd : 3 ≤ d) (hWd : WordC l D lg) (hF : lmF μ0 μ) (h18 : μ.1 10 0 18 = nI n) (hR : lnR lg tb L δ p = R) (h : lnH lg tb L p R μ) : pt_X10_line_3 l D d (fun μ' => lmF μ0 μ' ∧ lmR lg tb L p n (lneR lg tb L δ p) μ') Γ 0 μ := by
  have fin : ∀ (R2 : rsL dfT) (ν : gMem), lneR lg tb L δ p = R2 → lmF μ0 ν → (match R2 with | .inl (k, q) => flM ν k q | .inr (δ', q) => rlM lg tb L ν q ∧ dfM ν δ' ∧ p < q ∧ okD δ') → ν.1 10 0 18 = nI n → pt_X10_line_4 l D d (fun μ' => lmF μ0 μ' ∧ lmR lg tb L p n (lneR lg tb L δ p) μ') Γ 0 ν := by
    intro R2 ν e2 F2 h2 g18
    refine bl_X10_line_4 (by decide) ?_
    rw [g18, nI_1, e2]
    rintro ν1 e1
    have o1 : ∀ j, ¬ j = 18 → ν1.1 10 0 j = ν.1 10 0 j := fun j hj => by rw [e1, gsI_at, if_neg (by omega)]
    have o2 : ∀ k, ¬ k = 10 → ν1.1 k 0 = ν.1 k 0 := fun k hk => by rw [e1, gsI_off (by omega)]
    refine ⟨by rw [e1]; exact F2.p10 (by omega), ?_⟩
    rcases R2 with ⟨k, q⟩ | ⟨δ', q⟩
    · exact flM.of h2 (fun j hj => o1 j (by omega))
    · exact ⟨h2.1.of (fun j hj => o1 j (by omega)) (o2 705 (by omega)), h2.2.1.of (fun k hk => o2 k (by omega)) (fun j hj => o1 j (by omega)), h2.2.2.1, h2.2.2.2, by rw [e1, gsI_s]⟩
  rcases R with ⟨k, q⟩ | ⟨δ', q⟩
  · have h : flM μ k q := h
    refine bl_X10_line_3 (by decide) ⟨fun z => absurd z h.nz, fun _ => ⟨hF, ?_⟩⟩
    unfold lneR
    rw [bnd_l hR]
    exact h
  · obtain ⟨h1, h2, h3, h4⟩ := h
    have he : lneR lg tb L δ p = if tkK lg tb L q = 33 then .inr (δ', nxP lg tb L q) else .inl (1, q) := by
      unfold lneR
      rw [bnd_r hR]
    have h33 : bI (μ.1 10 0 24 = 0 ∧ μ.1 10 0 22 = (3 : Int32) ∧ μ.1 10 0 23 = (59 : Int32)) = 0 ↔ ¬ tkK lg tb L q = 33 := by
      have := isS (μ := μ) h1.2.2.2 33 (by omega) (by omega) (x := 59) (by decide)
      rw [bI_z]
      constructor
      · intro w w2
        exact w ⟨h1.2.1, this.mpr w2⟩
      · intro w w2
        exact w (this.mp w2.2)
    refine bl_X10_line_3 (by decide) ⟨fun _ => ⟨by omega, fun z => ?_, fun z => ?_⟩, fun z => absurd h1.2.1 z⟩
    · rw [h33] at z
      have z := Decidable.not_not.mp z
      refine ⟨2, _, by omega, c_token (by omega) hWd h1.1 h1.2.2.1 h1.2.2.2, ?_⟩
      rintro μ11 ⟨N, a⟩
      have hq := tk_in z (by decide)
      have := nxP_gt (lg := lg) (tb := tb) hq
      exact fin (.inr (δ', nxP lg tb L q)) μ11 (by rw [he, if_pos z]) (hF.tr N.w.m) ⟨h1.tk N a, h2.w N.w, by omega, h4⟩ (by rw [N.2.1 18 (by omega)]; exact h18)
    · rw [h33] at z
      refine ⟨0, _, by omega, w_wrong (x := 1) (by decide) h1, ?_⟩
      rintro μ18 ⟨F18, f18⟩
      exact fin (.inl (1, q)) μ18 (by rw [he, if_neg z]) (hF.tr F18.m) f18 (by rw [F18.2.1 18 (by omega)]; exact h18)
end ML
