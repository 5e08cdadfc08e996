/-! the class's readInto -/
def raF (t r : Nat) (μ μ' : gMem) : Prop := (∀ k j, ¬ (j = 0 ∧ (k = 1 ∨ k = 128 ∨ k = 130 ∨ k = 6)) → ¬ (j = t ∧ (k = 2 ∨ (192 ≤ k ∧ k ≤ 195))) → μ'.1 k j = μ.1 k j) ∧ (∀ j, ¬ (6 ≤ j ∧ j ≤ 8) → μ'.1 2 t j = μ.1 2 t j) ∧ (∀ j, ¬ (4 ≤ j ∧ j ≤ 7) → μ'.1 6 0 j = μ.1 6 0 j) ∧ (∀ z, ¬ z = r → μ'.1 194 t z = μ.1 194 t z ∧ μ'.1 195 t z = μ.1 195 t z) ∧ μ'.2 = μ.2
section SI
variable {l : Launch} {D : gD} {d : Nat} {μ : gMem} {t : Nat} {c : cdT} {f : Nat} {lg : Nat → Int32} {tb : Nat → Nat} {L : Nat}
theorem c_X1_readInto {r p : Nat} {x2 : Int32} (hx : x2 = nI r) (hd : 5 ≤ d) (ht : t < 2) (hr : r < 3) (hT : tkC lg tb L μ) (hp : p ≤ L) (hat : atC lg tb L p μ) (hL : lwC μ t c f) (h7 : μ.1 2 t 7 = nI f) (hf : f ≤ 64) : Ctr l D d yX1_readInto cX1_readInto 5 (some .int) [.ref (D.2.2 1 0), .ref (D.2.2 2 t), .int x2, .ref (D.2.2 6 0)] μ (pI (fun v μ' => raF t r μ μ' ∧ μ'.1 194 t r = nI f ∧ riQ lg tb L t r (syR lg tb L 701 p [] (fun _ => false) 0 true true c f f) v μ')) := by
  subst hx
  have h700 := hT.2.1
  refine en_X1_readInto (fun Γ => bl_X1_readInto_0 (by decide) ht (by decide) ?_)
  rw [nar0]
  rintro μ1 e1 μ2 e2 μ4 e4 μ5 e5 μ6 e6
  have F6 : fmF t μ μ6 := by
    rw [e6, e5, e4, e2, e1]
    exact ((((fmF.rf.p0 (by omega)).p0 (by omega)).p0 (by omega)).p0 (by omega)).p0 (by omega)
  have o6 : ∀ k j, ¬ ((k = 1 ∨ k = 130) ∧ j = 0) → μ6.1 k j = μ.1 k j := fun k j hk => by rw [e6, gsI_off (by omega), e5, gsI_off (by omega), e4, gsI_off (by omega), e2, gsI_off (by omega), e1, gsI_off (by omega)]
  have a1 : μ6.1 1 0 1 = 0 := by rw [e6, gsI_at, if_neg (by omega), e5, gsI_at, if_neg (by omega), e4, gsI_off (by omega), e2, gsI_at, if_neg (by omega), e1, gsI_s]
  have a3 : μ6.1 1 0 3 = 0 := by rw [e6, gsI_at, if_neg (by omega), e5, gsI_at, if_neg (by omega), e4, gsI_off (by omega), e2, gsI_s]
  have a4 : μ6.1 1 0 4 = 1 := by rw [e6, gsI_at, if_neg (by omega), e5, gsI_s]
  have a5 : μ6.1 1 0 5 = 1 := by rw [e6, gsI_s]
  have a130 : μ6.1 130 0 0 = 0 := by rw [e6, gsI_off (by omega), e5, gsI_off (by omega), e4, gsI_s]
  clear e1 e2 e4 e5 e6
  refine ⟨0, fun μ' => μ' = gsI μ6 194 t r (μ6.1 2 t 6), by omega, en_X2_begin (fun Γ => bl_X2_begin_0 ht ⟨r, hr, rfl, fun _ e => e⟩), ?_⟩
  rintro μ11 e11 x4 ex
  have g : ∀ k j, ¬ (k = 194 ∧ j = t) → μ11.1 k j = μ6.1 k j := fun k j hk => by rw [e11, gsI_off (by omega)]
  have g2 : ∀ k, ¬ k = 194 → ¬ k = 1 → ¬ k = 130 → μ11.1 k = μ.1 k := fun k x y z => by funext j; rw [g k j (by omega), o6 k j (by omega)]
  have T11 : tkC lg tb L μ11 := by
    unfold tkC
    rw [g2 6 (by omega) (by omega) (by omega), g2 448 (by omega) (by omega) (by omega), g2 449 (by omega) (by omega) (by omega)]
    exact hT
  rw [ex, T11.1]
  have s194 : μ11.1 194 t r = nI f := by
    rw [e11, gsI_s, o6 2 t (by omega)]
    exact hL.1
  refine readInto_1 (R := syR lg tb L 701 p [] (fun _ => false) 0 true true c f f) (μ0 := μ11) (by omega) ht hr T11 ?_ L 701 p [] (fun _ => false) 0 true true c f f μ11 (by omega) (by omega) (by omega) fkF.rf ?_ ?_ hp ?_ rfl
  · rintro v μ' ⟨μ12, F12, h12⟩ hQ
    have k12 : ∀ k j, ¬ (k = 195 ∧ j = t) → μ'.1 k j = μ12.1 k j := by
      intro k j hk
      rcases h12 with e | ⟨x, e⟩
      · rw [e]
      · rw [e, gsI_off (by omega)]
    have m12 : μ'.2 = μ12.2 := by
      rcases h12 with e | ⟨x, e⟩
      · rw [e]
      · rw [e]; rfl
    have k195 : ∀ z, ¬ z = r → μ'.1 195 t z = μ12.1 195 t z := by
      intro z hz
      rcases h12 with e | ⟨x, e⟩
      · rw [e]
      · rw [e, gsI_at, if_neg (by omega)]
    refine ⟨⟨fun k j x y => ?_, fun j x => ?_, fun j x => ?_, fun z hz => ⟨?_, ?_⟩, ?_⟩, ?_, hQ⟩
    · rw [k12 k j (by omega), F12.1 k j (by omega) (by omega), g k j (by omega), F6.1 k j (by omega) (by omega)]
    · rw [k12 2 t (by omega), F12.2.1 j x, g 2 t (by omega), F6.2.1 j x]
    · rw [k12 6 0 (by omega), F12.2.2.1 j x, g 6 0 (by omega), o6 6 0 (by omega)]
    · rw [k12 194 t (by omega), F12.1 194 t (by omega) (by omega), e11, gsI_at, if_neg (by omega), o6 194 t (by omega)]
    · rw [k195 z hz, F12.1 195 t (by omega) (by omega), g 195 t (by omega), o6 195 t (by omega)]
    · rw [m12, F12.2.2.2, e11]; exact F6.2.2
    · rw [k12 194 t (by omega), F12.1 194 t (by omega) (by omega)]; exact s194
  · refine ⟨⟨by rw [g 1 0 (by omega)]; exact a1, fun j hj => absurd hj (Nat.not_lt_zero _)⟩, by rw [g 1 0 (by omega)]; exact a3, fun j hj => ?_, by rw [g 1 0 (by omega)]; exact a4, by rw [g 1 0 (by omega)]; exact a5, hL.of (fun k hk => by rw [g2 k (by omega) (by omega) (by omega)]), by rw [g2 2 (by omega) (by omega) (by omega)]; exact h7⟩
    obtain rfl : j = 0 := by omega
    rw [g 130 0 (by omega)]
    exact a130
  · exact ⟨rfl, hf, rfl, by omega, fun k hk => absurd hk (List.not_mem_nil)⟩
  · unfold atC
    rw [g2 6 (by omega) (by omega) (by omega)]
    exact hat
end SI
