/-! THE DRAFT as a value, and how class and reference hold it -/
/-- persons; deeds; plans; numbers 3 to 8; laws; said -/
abbrev dfT : Type := (Nat × (Nat → Int32) × (Nat → Int32) × (Nat → Int32) × (Nat → Int32)) × (Nat × (Nat → Int32) × (Nat → Int32) × (Nat → Int32) × (Nat → Int32)) × (Nat × (Nat → Int32)) × (Nat → Int32) × (cdT × Nat × (Nat → Nat) × (Nat → Nat)) × (Nat → Bool)
def dfC (μ : gMem) (e : Nat) (δ : dfT) : Prop := (μ.1 7 e 0 = nI δ.1.1 ∧ ∀ k, k < δ.1.1 → μ.1 513 e k = δ.1.2.1 k ∧ μ.1 514 e k = δ.1.2.2.1 k ∧ μ.1 515 e k = δ.1.2.2.2.1 k ∧ μ.1 516 e k = δ.1.2.2.2.2 k) ∧ (μ.1 7 e 5 = nI δ.2.1.1 ∧ ∀ k, k < δ.2.1.1 → μ.1 518 e k = δ.2.1.2.1 k ∧ μ.1 519 e k = δ.2.1.2.2.1 k ∧ μ.1 520 e k = δ.2.1.2.2.2.1 k ∧ μ.1 521 e k = δ.2.1.2.2.2.2 k) ∧ (μ.1 7 e 10 = nI δ.2.2.1.1 ∧ ∀ z, z < 30 → μ.1 523 e z = δ.2.2.1.2 z) ∧ (∀ j, 3 ≤ j → j ≤ 8 → μ.1 7 e (9 + j) = δ.2.2.2.1 j) ∧ (lwC μ e δ.2.2.2.2.1.1 δ.2.2.2.2.1.2.1 ∧ μ.1 2 e 7 = nI δ.2.2.2.2.1.2.1 ∧ ∀ r, r < 3 → μ.1 194 e r = nI (δ.2.2.2.2.1.2.2.1 r) ∧ μ.1 195 e r = nI (δ.2.2.2.2.1.2.2.2 r)) ∧ ∀ j, j < 4 → μ.1 386 0 j = bB (δ.2.2.2.2.2 (3 + j))
def df0 : dfT := ((0, fun _ => 0, fun _ => 0, fun _ => 0, fun _ => 0), (0, fun _ => 0, fun _ => 0, fun _ => 0, fun _ => 0), (0, fun _ => 0), (fun j => if j = 4 then 7 else 0), (fun _ => (0, 0), 0, fun _ => 0, fun _ => 0), fun _ => false)
/-- what clearing changes -/
def clF (e : Nat) (μ μ' : gMem) : Prop := (∀ k j, ¬ (j = e ∧ (k = 2 ∨ k = 7 ∨ k = 194 ∨ k = 195 ∨ k = 523)) → μ'.1 k j = μ.1 k j) ∧ μ'.2 = μ.2
section DF
variable {l : Launch} {D : gD} {d : Nat} {μ : gMem} {e : Nat}
theorem gn_2 (he : e < 2) : e < gkn 194 ∧ e < gkn 195 ∧ e < gkn 523 := by
  have : ∀ e, e < 2 → e < gkn 194 ∧ e < gkn 195 ∧ e < gkn 523 := by decide
  exact this e he
theorem c_X2_clear (hd : 1 ≤ d) (he : e < 2) : Ctr l D d yX2_clear cX2_clear 1 none [.ref (D.2.2 2 e)] μ (pV (fun μ' => (∀ k j, ¬ (j = e ∧ (k = 2 ∨ k = 194 ∨ k = 195)) → μ'.1 k j = μ.1 k j) ∧ μ'.2 = μ.2 ∧ μ'.1 2 e 6 = 0 ∧ μ'.1 2 e 7 = 0 ∧ μ'.1 2 e 8 = 0 ∧ ∀ r, r < 3 → μ'.1 194 e r = 0 ∧ μ'.1 195 e r = 0)) := by
  obtain ⟨g4, g5, -⟩ := gn_2 he
  refine en_X2_clear (fun Γ => bl_X2_clear_0 he ?_)
  rintro μ1 e1 μ2 e2 μ3 e3
  have o3 : ∀ k j, ¬ (k = 2 ∧ j = e) → μ3.1 k j = μ.1 k j := fun k j hk => by rw [e3, gsI_off (by omega), e2, gsI_off (by omega), e1, gsI_off (by omega)]
  have s6 : μ3.1 2 e 6 = 0 := by rw [e3, gsI_at, if_neg (by omega), e2, gsI_at, if_neg (by omega), e1, gsI_s]
  have s7 : μ3.1 2 e 7 = 0 := by rw [e3, gsI_at, if_neg (by omega), e2, gsI_s]
  have s8 : μ3.1 2 e 8 = 0 := by rw [e3, gsI_s]
  have m3 : μ3.2 = μ.2 := by rw [e3, e2, e1]; rfl
  clear e1 e2 e3
  refine ⟨0, _, by omega, c_fill (k0 := 194) (i0 := e) (L := 3) (by decide) g4 (by decide) (by omega), ?_⟩
  rintro μ8 ⟨a1, a2, a3⟩
  refine ⟨0, _, by omega, c_fill (k0 := 195) (i0 := e) (L := 3) (by decide) g5 (by decide) (by omega), ?_⟩
  rintro μ15 ⟨b1, b2, b3⟩
  refine ⟨fun k j hk => by rw [b1 k j (by omega), a1 k j (by omega), o3 k j (by omega)], by rw [b3, a3, m3], by rw [b1 2 e (by omega), a1 2 e (by omega)]; exact s6, by rw [b1 2 e (by omega), a1 2 e (by omega)]; exact s7, by rw [b1 2 e (by omega), a1 2 e (by omega)]; exact s8, fun r hr => ⟨by rw [b1 194 e (by omega), a2, if_pos hr], by rw [b2, if_pos hr]⟩⟩
theorem c_X7_clear (hd : 2 ≤ d) (he : e < 2) : Ctr l D d yX7_clear cX7_clear 1 none [.ref (D.2.2 7 e)] μ (pV (fun μ' => clF e μ μ' ∧ ∀ ν : gMem, (∀ k, ¬ k = 386 → ν.1 k = μ'.1 k) → (∀ j, j < 4 → ν.1 386 0 j = 0) → dfC ν e df0)) := by
  obtain ⟨-, -, g6⟩ := gn_2 he
  refine en_X7_clear (fun Γ => bl_X7_clear_0 he ?_)
  rintro μ1 e1 μ2 e2 μ3 e3
  have o3 : ∀ k j, ¬ (k = 7 ∧ j = e) → μ3.1 k j = μ.1 k j := fun k j hk => by rw [e3, gsI_off (by omega), e2, gsI_off (by omega), e1, gsI_off (by omega)]
  have s0 : μ3.1 7 e 0 = 0 := by rw [e3, gsI_at, if_neg (by omega), e2, gsI_at, if_neg (by omega), e1, gsI_s]
  have s5 : μ3.1 7 e 5 = 0 := by rw [e3, gsI_at, if_neg (by omega), e2, gsI_s]
  have s10 : μ3.1 7 e 10 = 0 := by rw [e3, gsI_s]
  have m3 : μ3.2 = μ.2 := by rw [e3, e2, e1]; rfl
  clear e1 e2 e3
  refine ⟨0, _, by omega, c_fill (k0 := 523) (i0 := e) (L := 30) (by decide) g6 (by decide) (by omega), ?_⟩
  rintro μ8 ⟨a1, a2, a3⟩ μ11 e11 μ12 e12 μ13 e13 μ14 e14 μ15 e15 μ16 e16
  have o16 : ∀ k j, ¬ (k = 7 ∧ j = e) → μ16.1 k j = μ8.1 k j := fun k j hk => by rw [e16, gsI_off (by omega), e15, gsI_off (by omega), e14, gsI_off (by omega), e13, gsI_off (by omega), e12, gsI_off (by omega), e11, gsI_off (by omega)]
  have g7 : ∀ j, ¬ (12 ≤ j ∧ j ≤ 17) → μ16.1 7 e j = μ8.1 7 e j := fun j hj => by rw [e16, gsI_at, if_neg (by omega), e15, gsI_at, if_neg (by omega), e14, gsI_at, if_neg (by omega), e13, gsI_at, if_neg (by omega), e12, gsI_at, if_neg (by omega), e11, gsI_at, if_neg (by omega)]
  have t17 : μ16.1 7 e 17 = 0 := by rw [e16, gsI_s]
  have t16 : μ16.1 7 e 16 = 0 := by rw [e16, gsI_at, if_neg (by omega), e15, gsI_s]
  have t15 : μ16.1 7 e 15 = 0 := by rw [e16, gsI_at, if_neg (by omega), e15, gsI_at, if_neg (by omega), e14, gsI_s]
  have t14 : μ16.1 7 e 14 = 0 := by rw [e16, gsI_at, if_neg (by omega), e15, gsI_at, if_neg (by omega), e14, gsI_at, if_neg (by omega), e13, gsI_s]
  have t13 : μ16.1 7 e 13 = 7 := by rw [e16, gsI_at, if_neg (by omega), e15, gsI_at, if_neg (by omega), e14, gsI_at, if_neg (by omega), e13, gsI_at, if_neg (by omega), e12, gsI_s]
  have t12 : μ16.1 7 e 12 = 0 := by rw [e16, gsI_at, if_neg (by omega), e15, gsI_at, if_neg (by omega), e14, gsI_at, if_neg (by omega), e13, gsI_at, if_neg (by omega), e12, gsI_at, if_neg (by omega), e11, gsI_s]
  have m16 : μ16.2 = μ8.2 := by rw [e16, e15, e14, e13, e12, e11]; rfl
  clear e11 e12 e13 e14 e15 e16
  refine ⟨1, _, by omega, c_X2_clear (by omega) he, ?_⟩
  rintro μ21 ⟨b1, b2, b6, b7, b8, br⟩
  refine ⟨⟨fun k j hk => by rw [b1 k j (by omega), o16 k j (by omega), a1 k j (by omega), o3 k j (by omega)], by rw [b2, m16, a3, m3]⟩, fun ν hν h386 => ?_⟩
  have r7 : ν.1 7 e = μ16.1 7 e := by rw [hν 7 (by omega)]; exact b1 7 e (by omega)
  have n2 : ν.1 2 = μ21.1 2 := hν 2 (by omega)
  refine ⟨⟨by rw [r7, g7 0 (by omega), a1 7 e (by omega)]; exact s0, fun k hk => absurd hk (Nat.not_lt_zero _)⟩, ⟨by rw [r7, g7 5 (by omega), a1 7 e (by omega)]; exact s5, fun k hk => absurd hk (Nat.not_lt_zero _)⟩, ⟨by rw [r7, g7 10 (by omega), a1 7 e (by omega)]; exact s10, fun z hz => by rw [hν 523 (by omega), b1 523 e (by omega), o16 523 e (by omega), a2, if_pos hz]; rfl⟩, fun j h1 h2 => ?_, ⟨⟨by rw [n2]; exact b6, fun i hi => absurd hi (Nat.not_lt_zero _), Or.inl (by rw [n2]; exact b8), fun _ i hi => absurd hi (Nat.not_lt_zero _)⟩, by rw [n2]; exact b7, fun r hr => by rw [hν 194 (by omega), hν 195 (by omega)]; exact br r hr⟩, fun j hj => by rw [h386 j hj]; rfl⟩
  rw [r7]
  match j, h1, h2 with
  | 3, _, _ => exact t12
  | 4, _, _ => exact t13
  | 5, _, _ => exact t14
  | 6, _, _ => exact t15
  | 7, _, _ => exact t16
  | 8, _, _ => exact t17
end DF
