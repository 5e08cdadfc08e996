/-! primary -/
section RP3
variable {l : Launch} {D : gD} {d : Nat} {lg : Nat → Int32} {tb : Nat → Nat} {L : Nat} {p o n : Nat} {c : cdT} {f : Nat} {W : List Int32} {cm : Nat → Bool} {nm : Bool} {μ : gMem}
theorem num_val (h : tkK lg tb L p = 34) : ∃ a b, tkV lg tb L p = nI a ∧ (tkF lg tb L p).2.2.2 = nI b ∧ numR a b := by
  unfold tkK at h
  unfold tkV
  revert h
  unfold tkF
  by_cases h0 : p < L
  · rw [if_neg (fun z => z h0)]
    by_cases h1 : ltr (tb p)
    · rw [if_pos h1]
      intro h
      exfalso
      have h : (if 6 < runE ltr tb L p - p then (37 : Int32) else if tkW lg tb p (runE ltr tb L p) = -1 then 35 else tkW lg tb p (runE ltr tb L p)) = 34 := h
      by_cases h6 : 6 < runE ltr tb L p - p
      · rw [if_pos h6] at h; exact absurd h (by decide)
      · rw [if_neg h6] at h
        by_cases hw : tkW lg tb p (runE ltr tb L p) = -1
        · rw [if_pos hw] at h; exact absurd h (by decide)
        · rw [if_neg hw] at h
          have := fndL_rng (f := lg) (x := nI (wv tb p (runE ltr tb L p) 6)) 21 0
          unfold tkW at hw h
          rw [if_neg h6] at hw h
          rcases this with w | ⟨j, -, hj, e, -⟩
          · exact hw w
          · rw [e] at h
            have := (nI_eq (b := 34) (by omega) (by omega)).mp h
            omega
    · rw [if_neg h1]
      by_cases h2 : dgs (tb p)
      · rw [if_pos h2]
        intro _
        refine ⟨_, _, rfl, rfl, num_R _ p 0 0 (fun z a b => ?_) (Or.inl ⟨rfl, by omega⟩)⟩
        have hge := runE_ge (P := dgs) (tb := tb) (L := L) p
        exact (runE_in (P := dgs) (L := L) a (by omega)).2
      · rw [if_neg h2]
        intro h
        exfalso
        have h : sgK (tb p) (nxB tb L (p + 1)) = 34 := h
        revert h
        unfold sgK
        repeat' split
        all_goals decide
  · rw [if_pos h0]
    intro h
    exact absurd h (show ¬ (36 : Int32) = 34 by decide)
theorem isN {cf : cdT × Nat} (h : rmM lg tb L μ p cf o n) : (μ.1 10 0 22 = 2 ↔ tkK lg tb L p = 34) := by
  have h22 : μ.1 10 0 22 = sortK (tkK lg tb L p) := h.2.2.1.2.2.1
  have so : ∀ i, i < 34 → ¬ sortK (nI i) = 2 ∧ ¬ nI i = 34 := by decide
  rw [h22]
  rcases tk_val (lg := lg) (tb := tb) (L := L) (p := p) with ⟨i, hi, e, ev⟩ | ⟨i, h1, h2, e, ev⟩ | e | e | e | e
  · rw [e]; exact ⟨fun z => absurd z (so i (by omega)).1, fun z => absurd z (so i (by omega)).2⟩
  · rw [e]; exact ⟨fun z => absurd z (so i (by omega)).1, fun z => absurd z (so i (by omega)).2⟩
  · rw [e]; decide
  · rw [e]; decide
  · rw [e]; decide
  · rw [e]; decide
theorem p6_bad {Γ : gC} {x1 : Int32} {μ0 : gMem} (hd : 1 ≤ d) (F : rdF μ0 μ) (b : rdBad lg tb L W cm o p nm c f n μ) : pt_X10_primary_6 l D d (rdQ lg tb L 7 W cm o p nm c f n μ0) Γ 0 x1 μ := by
  have nz := b.nz
  have p8 : ∀ x y, pt_X10_primary_8 l D d (rdQ lg tb L 7 W cm o p nm c f n μ0) Γ 0 0 x y μ := by
    intro x y
    refine bl_X10_primary_8 (by decide) (by decide) ⟨0, _, by omega, n_puts nz, ?_⟩
    rintro μ5 e5
    rw [e5]
    refine ⟨0, _, by omega, n_goOn nz, ?_⟩
    rintro μ12 e12
    rw [e12]
    exact ⟨F, Or.inl b⟩
  refine bl_X10_primary_6 (by decide) ⟨0, _, by omega, n_knot nz, ?_⟩
  rintro μ5 e5
  rw [e5]
  exact ⟨fun _ => bl_X10_primary_7 (by decide) (by decide) ⟨fun _ => p8 _ _, fun _ => p8 _ _⟩, fun _ => bl_X10_primary_7 (by decide) (by decide) ⟨fun _ => p8 _ _, fun _ => p8 _ _⟩⟩
theorem p6_ok {Γ : gC} {x1 : Int32} (hd : 4 ≤ d) (hWd : WordC l D lg) (hr : rmM lg tb L μ p (c, f) o n) (hK : fmK W o f n) (hp : p ≤ L) (hV : isV (tkK lg tb L p)) (hn9 : ¬ (tkK lg tb L p = 34 ∧ 9999 < (tkV lg tb L p).toInt)) (h0 : x1 = 0 → ck (tkK lg tb L p) (tkV lg tb L p) = (1, μ.1 10 0 23 - 14)) (h1 : ¬ x1 = 0 → ck (tkK lg tb L p) (tkV lg tb L p) = (0, μ.1 10 0 23)) (hdp : ∀ h, dps (ck (tkK lg tb L p) (tkV lg tb L p)) h = some (h + 1)) : pt_X10_primary_6 l D d (rdQ lg tb L 7 W cm o p nm c f n μ) Γ 0 x1 μ := by
  obtain ⟨k1, k2, k3, k4, k5⟩ := hK
  have hcan : canP true nm (cm o) o (tkK lg tb L p) := Or.inl ⟨rfl, Or.inl hV⟩
  have hpL := can_end hcan
  have hgt := nxP_gt (lg := lg) (tb := tb) hpL
  have v31 : ¬ tkK lg tb L p = 31 := fun e => by rw [e] at hV; exact absurd hV (by decide)
  have v32 : ¬ tkK lg tb L p = 32 := fun e => by rw [e] at hV; exact absurd hV (by decide)
  refine bl_X10_primary_6 (by decide) ⟨1, _, by omega, c_X10_knot (by omega) k2 hr, ?_⟩
  rintro μ5 ⟨F5, bad, ok⟩
  by_cases hn : n = 64
  · have fl := bad hn
    have b : rdBad lg tb L W cm o p nm c f n μ5 := by
      refine ⟨2, p, fl, fun m hm => ?_⟩
      obtain ⟨m2, rfl⟩ : ∃ m2, m = m2 + 1 := ⟨m - 1, by omega⟩
      rw [syR, if_neg (fun z => z hcan), if_pos (Or.inr ⟨v31, v32, Or.inl (by omega)⟩)]
    have nz := b.nz
    have p8 : ∀ x y, pt_X10_primary_8 l D d (rdQ lg tb L 7 W cm o p nm c f n μ) Γ 0 0 x y μ5 := by
      intro x y
      refine bl_X10_primary_8 (by decide) (by decide) ⟨0, _, by omega, n_puts nz, ?_⟩
      rintro μ6 e6
      rw [e6]
      refine ⟨0, _, by omega, n_goOn nz, ?_⟩
      rintro μ12 e12
      rw [e12]
      exact ⟨F5, Or.inl b⟩
    exact ⟨fun _ => bl_X10_primary_7 (by decide) (by decide) ⟨fun _ => p8 _ _, fun _ => p8 _ _⟩, fun _ => bl_X10_primary_7 (by decide) (by decide) ⟨fun _ => p8 _ _, fun _ => p8 _ _⟩⟩
  · have r5 := ok hn
    have e23 : μ5.1 10 0 23 = μ.1 10 0 23 := by
      by_cases hx : x1 = 0
      · have a := r5.2.2.1.2.2.2
        have b := hr.2.2.1.2.2.2
        rw [a (fun z => by have : tkK lg tb L p = 36 := z; rw [this] at hV; exact absurd hV (by decide)) (fun z => by have : tkK lg tb L p = 37 := z; rw [this] at hV; exact absurd hV (by decide)), b (fun z => by have : tkK lg tb L p = 36 := z; rw [this] at hV; exact absurd hV (by decide)) (fun z => by have : tkK lg tb L p = 37 := z; rw [this] at hV; exact absurd hV (by decide))]
      · have a := r5.2.2.1.2.2.2
        have b := hr.2.2.1.2.2.2
        rw [a (fun z => by have : tkK lg tb L p = 36 := z; rw [this] at hV; exact absurd hV (by decide)) (fun z => by have : tkK lg tb L p = 37 := z; rw [this] at hV; exact absurd hV (by decide)), b (fun z => by have : tkK lg tb L p = 36 := z; rw [this] at hV; exact absurd hV (by decide)) (fun z => by have : tkK lg tb L p = 37 := z; rw [this] at hV; exact absurd hV (by decide))]
    have p8 : ∀ x y, ck (tkK lg tb L p) (tkV lg tb L p) = (x, y) → pt_X10_primary_8 l D d (rdQ lg tb L 7 W cm o p nm c f n μ) Γ 0 0 x y μ5 := by
      intro x y exy
      refine bl_X10_primary_8 (by decide) (by decide) ⟨1, _, by omega, c_X10_puts (by omega) (by show f < 64; omega) r5, ?_⟩
      rintro μ6 ⟨F6, r6⟩
      refine ⟨3, _, by omega, c_X10_goOn (by omega) hWd hp r6, ?_⟩
      rintro μ12 ⟨F12, r12⟩
      refine ⟨(F5.tr F6).tr F12, Or.inr ⟨nxP lg tb L p, [], cm, nm, upC c f (x, y), f + 1, n + 1, r12, fun k hk => absurd hk List.not_mem_nil, ⟨by show f + 1 + cnS W = n + 1; omega, by omega, k3, k4, k5⟩, ⟨hgt, nxP_le hp⟩, ⟨fun z => by omega, fun z => by omega, fun z => by omega, fun z => by omega, fun z => by omega⟩, fun _ _ => rfl, fun _ => rfl, ⟨Nat.lt_succ_self _, fun i hi => ?_⟩, fun h => ?_, by omega, fun m hm => ?_⟩⟩
      · show upC c f (x, y) i = c i
        rw [upC, if_neg (by omega)]
      · show dpn (upC c f (x, y)) (f + 1 - f) f h = some (h + 1)
        rw [show f + 1 - f = 1 by omega, dpn, upC, if_pos rfl, ← exy, hdp h]
        rfl
      · obtain ⟨m2, rfl⟩ : ∃ m2, m = m2 + 1 := ⟨m - 1, by omega⟩
        refine ⟨m2, by omega, ?_⟩
        rw [syR, if_neg (fun z => z hcan), if_neg (fun z => by
          rcases z with z | ⟨-, -, z | z⟩
          · exact v31 z.1
          · omega
          · exact hn9 z), if_pos hV, exy]
        rfl
    refine ⟨fun z => bl_X10_primary_7 (by decide) (by decide) ⟨fun _ => p8 _ _ (by rw [e23]; exact h0 z), fun w => absurd z w⟩, fun z => bl_X10_primary_7 (by decide) (by decide) ⟨fun w => absurd w z, fun _ => p8 _ _ (by rw [e23]; exact h1 z)⟩⟩
end RP3
