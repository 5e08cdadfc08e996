/-! changes kept for undo -/
def pushU (υ : Nat × (Nat → wV) × (Nat → Int32 × Int32 × Int32 × Int32)) (c : Int32 × Int32 × Int32 × Int32) (Vn : wV) : Nat × (Nat → wV) × (Nat → Int32 × Int32 × Int32 × Int32) := if υ.1 < 20 then (υ.1 + 1, fun k => if k = υ.1 + 1 then Vn else υ.2.1 k, fun k => if k = υ.1 then c else υ.2.2 k) else (20, fun k => if k = 20 then Vn else υ.2.1 (k + 1), fun k => if k = 19 then c else υ.2.2 (k + 1))
def psh (σ : sV) (Vn : wV) (c : Int32 × Int32 × Int32 × Int32) : sV := (σ.1, Vn, σ.2.2.1, σ.2.2.2.1, pushU σ.2.2.2.2.1 c Vn, σ.2.2.2.2.2)
theorem setS_back {S : pplS} {p j : Nat} {x : Int32} : setS (setS S p j x) p j (S p j) = S := by
  funext k z
  unfold setS
  by_cases h : k = p ∧ z = j
  · rw [if_pos h, h.1, h.2]
  · rw [if_neg h, if_neg h]
theorem unOk_push {A : wEnv} {n : Nat} {V Vn : wV} {υ : Nat × (Nat → wV) × (Nat → Int32 × Int32 × Int32 × Int32)} {c : Int32 × Int32 × Int32 × Int32} (h : unOk A n V υ) (hV : okV A V) (hc : chg (eMen A) n c Vn V) : unOk A n Vn (pushU υ c Vn) := by
  obtain ⟨h1, h2, h3⟩ := h
  unfold pushU
  by_cases hm : υ.1 < 20
  · rw [if_pos hm]
    refine ⟨by show υ.1 + 1 ≤ 20; omega, if_pos rfl, fun k hk => ?_⟩
    have hk : k < υ.1 + 1 := hk
    show okV A (if k = υ.1 + 1 then Vn else υ.2.1 k) ∧ chg (eMen A) n (if k = υ.1 then c else υ.2.2 k) (if k + 1 = υ.1 + 1 then Vn else υ.2.1 (k + 1)) (if k = υ.1 + 1 then Vn else υ.2.1 k)
    rw [if_neg (by omega)]
    by_cases e : k = υ.1
    · rw [if_pos e, if_pos (by omega), e, h2]
      exact ⟨hV, hc⟩
    · rw [if_neg e, if_neg (by omega)]
      exact h3 k (by omega)
  · rw [if_neg hm]
    have e20 : υ.1 = 20 := by omega
    refine ⟨Nat.le_refl 20, (by show (if (20 : Nat) = 20 then Vn else υ.2.1 (20 + 1)) = Vn; exact if_pos rfl), fun k hk => ?_⟩
    have hk : k < 20 := hk
    show okV A (if k = 20 then Vn else υ.2.1 (k + 1)) ∧ chg (eMen A) n (if k = 19 then c else υ.2.2 (k + 1)) (if k + 1 = 20 then Vn else υ.2.1 (k + 1 + 1)) (if k = 20 then Vn else υ.2.1 (k + 1))
    rw [if_neg (by omega)]
    by_cases e : k = 19
    · rw [if_pos e, if_pos (by omega), e, show 19 + 1 = υ.1 by omega, h2]
      exact ⟨hV, hc⟩
    · rw [if_neg e, if_neg (by omega)]
      exact h3 (k + 1) (by omega)
theorem psh_ok {σ : sV} {Vn : wV} {c : Int32 × Int32 × Int32 × Int32} (h : sOkS σ) (hV : okV σ.1.1 Vn) (hc : chg (eMen σ.1.1) σ.1.2.1 c Vn σ.2.1) : sOkS (psh σ Vn c) := ⟨h.1, hV, h.2.2.1, h.2.2.2.1, unOk_push h.2.2.2.2.1 h.2.1 hc, h.2.2.2.2.2⟩
/-- a slot of a person -/
def vSet (V : wV) (p j : Nat) (x : Int32) : wV := (setS V.1 p j x, V.2)
def vPut (V : wV) (p j : Nat) (x : Int32) : wV := (V.1, setS V.2.1 p j x, V.2.2)
theorem okV_set {A : wEnv} {V : wV} {p j : Nat} {x : Int32} (h : okV A V) (h5 : eMen A ≤ 5) (hp : p < eMen A) (hj : j = 0 ∧ inR x 0 99 ∨ j = 9 ∧ inR x 0 999 ∨ j = 10 ∧ (x = 0 ∨ x = 1)) : okV A (vSet V p j x) := by
  obtain ⟨h1, h2, h3, h4, h6, h7, h8⟩ := h
  refine ⟨okS_set h1 (Nat.le_refl 0) hp (by omega) (fun w => ?_) (fun w => ?_) (by omega) (by omega) (fun w => ?_), fun q hq => ?_, h3, h4, h6, fun k hk z hz => ?_, h8⟩
  · rcases hj with a | a | a
    · exact a.2
    · omega
    · omega
  · rcases hj with a | a | a
    · omega
    · exact ⟨a.2.1, by have := a.2.2; omega⟩
    · omega
  · rcases hj with a | a | a
    · omega
    · omega
    · exact a.2
  · show (setS V.1 p j x q 9).toInt ≤ 999
    by_cases e : q = p ∧ 9 = j
    · rw [e.1, ← e.2, setS_s]
      rcases hj with a | a | a
      · omega
      · exact a.2.2
      · omega
    · rw [setS_o e]; exact h2 q hq
  · show setS V.1 p j x k z = 0
    rw [setS_o (by omega)]; exact h7 k hk z hz
theorem okV_put {A : wEnv} {V : wV} {p j : Nat} {x : Int32} (h : okV A V) (hj : j < 6) (hx : inR x 0 9) : okV A (vPut V p j x) := by
  obtain ⟨h1, h2, h3, h4, h6, h7, h8⟩ := h
  refine ⟨h1, h2, fun q hq z hz => ?_, h4, h6, h7, fun k hk z hz => ?_⟩
  · show inR (setS V.2.1 p j x q z) 0 9
    by_cases e : q = p ∧ z = j
    · rw [e.1, e.2, setS_s]; exact hx
    · rw [setS_o e]; exact h3 q hq z hz
  · show setS V.2.1 p j x k z = 0
    rw [setS_o (by omega)]; exact h8 k hk z hz
/-- what the class's Changes alone change -/
def adF (μ μ' : gMem) : Prop := (∀ k j, ¬ (k = 0 ∧ j = 0) → ¬ (64 ≤ k ∧ k ≤ 67 ∧ j = 0) → μ'.1 k j = μ.1 k j) ∧ μ'.2 = μ.2
theorem adF.rf {μ : gMem} : adF μ μ := ⟨fun _ _ _ _ => rfl, rfl⟩
theorem adF.tr {μ μ1 μ2 : gMem} (h : adF μ μ1) (h2 : adF μ1 μ2) : adF μ μ2 := ⟨fun k j a b => (h2.1 k j a b).trans (h.1 k j a b), h2.2.trans h.2⟩
theorem adF.put {μ μ1 : gMem} {k j : Nat} {v : Int32} (h : adF μ μ1) (hk : k = 0 ∨ 64 ≤ k ∧ k ≤ 67) : adF μ (gsI μ1 k 0 j v) := h.tr ⟨fun k' j' a b => gsI_off (by omega), rfl⟩
section PU1
variable {l : Launch} {D : gD} {d : Nat} {μ : gMem} {x1 x2 x3 x4 : Int32}
theorem dropFirst_loop {Γ : gC} {q : gMem → Prop} {μ0 : gMem} (hq : ∀ μ', adF μ0 μ' → μ'.1 0 0 4 = 19 → (∀ k, 64 ≤ k → k ≤ 67 → ∀ z, z < 19 → μ'.1 k 0 z = μ0.1 k 0 (z + 1)) → q μ') :
    ∀ (c j : Nat) (μ : gMem), j + c = 20 → 0 < j → adF μ0 μ → (∀ k, 64 ≤ k → k ≤ 67 → ∀ z, μ.1 k 0 z = if z + 1 < j then μ0.1 k 0 (z + 1) else μ0.1 k 0 z) → pt_X0_dropFirst_1 l D d q Γ 0 (nI j) μ := by
  have e20 : (20 : Int32) = nI 20 := rfl
  intro c
  induction c with
  | zero =>
    intro j μ hj h0 hF hr
    refine bl_X0_dropFirst_1 (by decide) ⟨fun _ => ?_, fun z => absurd (by rw [e20]; exact nI_le (by omega) (by omega)) z⟩
    rintro μ1 e1
    refine hq μ1 (by rw [e1]; exact hF.put (by omega)) (by rw [e1, gsI_s]) (fun k a b z hz => ?_)
    rw [e1, gsI_off (by omega), hr k a b z, if_pos (by omega)]
  | succ c ih =>
    intro j μ hj h0 hF hr
    have ej : nI j - 1 = nI (j - 1) := pk_sub (a := j) (b := 1) (by omega)
    refine bl_X0_dropFirst_1 (by decide) ⟨fun z => absurd z (by rw [e20]; exact nI_ge (by omega) (by omega)), fun _ => ⟨j, by omega, rfl, j - 1, by omega, ej, ?_⟩⟩
    rintro μ1 e1
    refine ⟨j, by omega, rfl, j - 1, by omega, ej, ?_⟩
    rintro μ2 e2
    refine ⟨j, by omega, rfl, j - 1, by omega, ej, ?_⟩
    rintro μ3 e3
    refine ⟨j, by omega, rfl, j - 1, by omega, ej, ?_⟩
    rintro μ4 e4 _ rfl
    rw [nI_1]
    have r2 : μ1.1 65 0 = μ.1 65 0 := by rw [e1, gsI_off (by omega)]
    have r3 : μ2.1 66 0 = μ.1 66 0 := by rw [e2, gsI_off (by omega), e1, gsI_off (by omega)]
    have r4 : μ3.1 67 0 = μ.1 67 0 := by rw [e3, gsI_off (by omega), e2, gsI_off (by omega), e1, gsI_off (by omega)]
    refine ih (j + 1) μ4 (by omega) (by omega) ?_ (fun k a b z => ?_)
    · rw [e4, e3, e2, e1]
      exact (((hF.put (by omega)).put (by omega)).put (by omega)).put (by omega)
    · have key : μ4.1 k 0 z = if z = j - 1 then μ.1 k 0 j else μ.1 k 0 z := by
        by_cases k4 : k = 67
        · subst k4
          rw [e4, gsI_row, r4]
        · rw [e4, gsI_off (by omega)]
          by_cases k3 : k = 66
          · subst k3
            rw [e3, gsI_row, r3]
          · rw [e3, gsI_off (by omega)]
            by_cases k2 : k = 65
            · subst k2
              rw [e2, gsI_row, r2]
            · rw [e2, gsI_off (by omega)]
              obtain rfl : k = 64 := by omega
              rw [e1, gsI_row]
      rw [key, hr k a b z, hr k a b j, if_neg (show ¬ j + 1 < j by omega)]
      by_cases hz : z = j - 1
      · rw [if_pos hz, if_pos (by omega), show z + 1 = j by omega]
      · rw [if_neg hz]
        by_cases hz2 : z + 1 < j
        · rw [if_pos hz2, if_pos (by omega)]
        · rw [if_neg hz2, if_neg (by omega)]
theorem c_X0_dropFirst : Ctr l D d yX0_dropFirst cX0_dropFirst 2 none [.ref (D.2.2 0 0)] μ (pV (fun μ' => adF μ μ' ∧ μ'.1 0 0 4 = 19 ∧ ∀ k, 64 ≤ k → k ≤ 67 → ∀ z, z < 19 → μ'.1 k 0 z = μ.1 k 0 (z + 1))) := by
  refine en_X0_dropFirst (fun Γ => bl_X0_dropFirst_0 (by decide) ?_)
  rintro _ rfl
  exact dropFirst_loop (μ0 := μ) (fun μ' a b c => ⟨a, b, c⟩) 19 1 μ (by omega) (by omega) adF.rf (fun k a b z => by rw [if_neg (by omega)])
theorem add_1 {Γ : gC} {q : gMem → Prop} {m : Nat} (hm : m < 20) (h0 : μ.1 0 0 4 = nI m) (hq : ∀ μ', adF μ μ' → μ'.1 0 0 4 = nI (m + 1) → (μ'.1 64 0 m, μ'.1 65 0 m, μ'.1 66 0 m, μ'.1 67 0 m) = (x1, x2, x3, x4) → (∀ k, 64 ≤ k → k ≤ 67 → ∀ z, ¬ z = m → μ'.1 k 0 z = μ.1 k 0 z) → q μ') : pt_X0_add_1 l D d q Γ 0 x1 x2 x3 x4 μ := by
  refine bl_X0_add_1 (by decide) ⟨m, hm, h0, ?_⟩
  rintro μ1 e1
  refine ⟨m, hm, by rw [e1, gsI_off (by omega)]; exact h0, ?_⟩
  rintro μ2 e2
  refine ⟨m, hm, by rw [e2, gsI_off (by omega), e1, gsI_off (by omega)]; exact h0, ?_⟩
  rintro μ3 e3
  refine ⟨m, hm, by rw [e3, gsI_off (by omega), e2, gsI_off (by omega), e1, gsI_off (by omega)]; exact h0, ?_⟩
  rintro μ4 e4
  have g4 : μ4.1 0 0 4 = nI m := by rw [e4, gsI_off (by omega), e3, gsI_off (by omega), e2, gsI_off (by omega), e1, gsI_off (by omega)]; exact h0
  rw [g4]
  rintro μ5 e5
  have o : ∀ k, 64 ≤ k → k ≤ 67 → μ5.1 k 0 = μ4.1 k 0 := fun k a b => by rw [e5, gsI_off (by omega)]
  refine hq μ5 ?_ (by rw [e5, gsI_s, nI_1]) ?_ (fun k a b z hz => ?_)
  · rw [e5, e4, e3, e2, e1]
    exact ((((adF.rf.put (by omega)).put (by omega)).put (by omega)).put (by omega)).put (by omega)
  · rw [o 64 (by omega) (by omega), o 65 (by omega) (by omega), o 66 (by omega) (by omega), o 67 (by omega) (by omega)]
    rw [show μ4.1 67 0 m = x4 by rw [e4, gsI_s], show μ4.1 66 0 m = x3 by rw [e4, gsI_off (by omega), e3, gsI_s], show μ4.1 65 0 m = x2 by rw [e4, gsI_off (by omega), e3, gsI_off (by omega), e2, gsI_s], show μ4.1 64 0 m = x1 by rw [e4, gsI_off (by omega), e3, gsI_off (by omega), e2, gsI_off (by omega), e1, gsI_s]]
  · rw [o k a b, e4, gsI_at, if_neg (by omega), e3, gsI_at, if_neg (by omega), e2, gsI_at, if_neg (by omega), e1, gsI_at, if_neg (by omega)]
theorem c_X0_add {υ : Nat × (Nat → wV) × (Nat → Int32 × Int32 × Int32 × Int32)} {Vn : wV} (hd : 1 ≤ d) (h : unC μ υ) (hm : υ.1 ≤ 20) : Ctr l D d yX0_add cX0_add 5 none [.ref (D.2.2 0 0), .int x1, .int x2, .int x3, .int x4] μ (pV (fun μ' => adF μ μ' ∧ unC μ' (pushU υ (x1, x2, x3, x4) Vn))) := by
  refine en_X0_add (fun Γ => bl_X0_add_0 (by decide) ?_)
  have lt : μ.1 0 0 4 < (20 : Int32) ↔ υ.1 < 20 := by rw [h.1]; exact nI_ltI (b := 20) (by omega) (by omega)
  rw [lt]
  refine ⟨fun z => add_1 z h.1 (fun μ' a b c e => ⟨a, ?_⟩), fun z => ⟨0, _, by omega, c_X0_dropFirst, ?_⟩⟩
  · unfold pushU
    rw [if_pos z]
    refine ⟨b, fun k hk => ?_⟩
    have hk : k < υ.1 + 1 := hk
    show _ = if k = υ.1 then (x1, x2, x3, x4) else υ.2.2 k
    by_cases ek : k = υ.1
    · rw [if_pos ek, ek]; exact c
    · rw [if_neg ek, e 64 (by omega) (by omega) k ek, e 65 (by omega) (by omega) k ek, e 66 (by omega) (by omega) k ek, e 67 (by omega) (by omega) k ek]
      exact h.2 k (by omega)
  · rintro μ1 ⟨hF1, h4, hs⟩
    refine add_1 (m := 19) (by omega) h4 (fun μ' a b c e => ⟨hF1.tr a, ?_⟩)
    unfold pushU
    rw [if_neg z]
    refine ⟨b, fun k hk => ?_⟩
    have hk : k < 20 := hk
    show _ = if k = 19 then (x1, x2, x3, x4) else υ.2.2 (k + 1)
    by_cases ek : k = 19
    · rw [if_pos ek, ek]; exact c
    · rw [if_neg ek, e 64 (by omega) (by omega) k ek, e 65 (by omega) (by omega) k ek, e 66 (by omega) (by omega) k ek, e 67 (by omega) (by omega) k ek, hs 64 (by omega) (by omega) k (by omega), hs 65 (by omega) (by omega) k (by omega), hs 66 (by omega) (by omega) k (by omega), hs 67 (by omega) (by omega) k (by omega)]
      exact h.2 (k + 1) (by omega)
end PU1
theorem cSt_push {μ μ2 : gMem} {t : Nat} {σ : sV} {Vn : wV} {c : Int32 × Int32 × Int32 × Int32} (h : cSt μ t σ) (hG : ∀ k j, ¬ (k = 0 ∧ j = 0) → ¬ (64 ≤ k ∧ k ≤ 67 ∧ j = 0) → ¬ ((k = 4 ∨ k = 331) ∧ j < 5) → μ2.1 k j = μ.1 k j) (h2 : μ2.2 = μ.2) (hj : jk μ2) (hW : hC μ2 0 Vn) (hU : unC μ2 (pushU σ.2.2.2.2.1 c Vn)) : cSt μ2 t (psh σ Vn c) := by
  obtain ⟨a1, a2, -, a3, a4, a5, a6, -, a8⟩ := h
  refine ⟨by rw [h2]; exact a1, by rw [hG 8 0 (by omega) (by omega) (by omega)]; exact a2, hj, a3.of (fun k hk => hG k t (by omega) (by omega) (by omega)), hW, a5.of (fun k hk => hG k 0 (by omega) (by omega) (by omega)), a6.of (by rw [hG 9 0 (by omega) (by omega) (by omega)]) (fun V hw => hw.of (fun k _ => hG 4 _ (by omega) (by omega) (by omega)) (fun k _ => hG 331 _ (by omega) (by omega) (by omega)) ⟨by rw [hG 8 1 (by omega) (by omega) (by omega)], by rw [hG 8 1 (by omega) (by omega) (by omega)]⟩ (by rw [h2])), hU, a8.of (hG 6 0 (by omega) (by omega) (by omega)) (hG 448 0 (by omega) (by omega) (by omega)) (hG 5 0 (by omega) (by omega) (by omega)) (hG 449 0 (by omega) (by omega) (by omega))⟩
/-- a person's slot is set behind a change -/
theorem cSt_set {μ μ1 : gMem} {t p j : Nat} {σ : sV} {x : Int32} {c : Int32 × Int32 × Int32 × Int32} (h : cSt μ t σ) (hp : p < 5) (hj : j ≤ 10) (hF : adF μ μ1) (hU : unC μ1 (pushU σ.2.2.2.2.1 c (vSet σ.2.1 p j x))) : cSt (gsI μ1 4 p j x) t (psh σ (vSet σ.2.1 p j x) c) := by
  have g : ∀ k i, ¬ (k = 4 ∧ i = p) → (gsI μ1 4 p j x).1 k i = μ1.1 k i := fun k i hk => gsI_off hk
  have hW := h.2.2.2.2.1
  have hjk := h.2.2.1
  refine cSt_push h (fun k i a b e => by rw [g k i (by omega)]; exact hF.1 k i a b) hF.2 ⟨fun i z hz => ?_, fun i z hz => ?_⟩ ⟨fun k hk => ?_, fun k hk => ?_, ?_, ?_, ?_⟩ (hU.of (by rw [g 0 0 (by omega)]) (fun k hk => g k 0 (by omega)))
  · rw [gsI_at, if_neg (by omega), hF.1 4 i (by omega) (by omega)]; exact hjk.1 i z hz
  · rw [g 331 i (by omega), hF.1 331 i (by omega) (by omega)]; exact hjk.2 i z hz
  · have hk2 := hW.1 k hk
    rw [Nat.mul_zero, Nat.zero_add] at hk2 ⊢
    show (gsI μ1 4 p j x).1 4 k = setS σ.2.1.1 p j x k
    by_cases e : k = p
    · subst e
      rw [gsI_row, setS_m, hF.1 4 k (by omega) (by omega), hk2]
    · rw [gsI_off (by omega), setS_r e, hF.1 4 k (by omega) (by omega)]; exact hk2
  · rw [g 331 _ (by omega), hF.1 331 _ (by omega) (by omega)]; exact hW.2.1 k hk
  · rw [g 8 0 (by omega), hF.1 8 0 (by omega) (by omega)]; exact hW.2.2.1
  · rw [g 8 0 (by omega), hF.1 8 0 (by omega) (by omega)]; exact hW.2.2.2.1
  · show μ1.2.1 8 0 3 = _; rw [hF.2]; exact hW.2.2.2.2
theorem cSt_put {μ μ1 : gMem} {t p j : Nat} {σ : sV} {x : Int32} {c : Int32 × Int32 × Int32 × Int32} (h : cSt μ t σ) (hp : p < 5) (hj : j < 6) (hF : adF μ μ1) (hU : unC μ1 (pushU σ.2.2.2.2.1 c (vPut σ.2.1 p j x))) : cSt (gsI μ1 331 p j x) t (psh σ (vPut σ.2.1 p j x) c) := by
  have g : ∀ k i, ¬ (k = 331 ∧ i = p) → (gsI μ1 331 p j x).1 k i = μ1.1 k i := fun k i hk => gsI_off hk
  have hW := h.2.2.2.2.1
  have hjk := h.2.2.1
  refine cSt_push h (fun k i a b e => by rw [g k i (by omega)]; exact hF.1 k i a b) hF.2 ⟨fun i z hz => ?_, fun i z hz => ?_⟩ ⟨fun k hk => ?_, fun k hk => ?_, ?_, ?_, ?_⟩ (hU.of (by rw [g 0 0 (by omega)]) (fun k hk => g k 0 (by omega)))
  · rw [g 4 i (by omega), hF.1 4 i (by omega) (by omega)]; exact hjk.1 i z hz
  · rw [gsI_at, if_neg (by omega), hF.1 331 i (by omega) (by omega)]; exact hjk.2 i z hz
  · rw [g 4 _ (by omega), hF.1 4 _ (by omega) (by omega)]; exact hW.1 k hk
  · have hk2 := hW.2.1 k hk
    rw [Nat.mul_zero, Nat.zero_add] at hk2 ⊢
    show (gsI μ1 331 p j x).1 331 k = setS σ.2.1.2.1 p j x k
    by_cases e : k = p
    · subst e
      rw [gsI_row, setS_m, hF.1 331 k (by omega) (by omega), hk2]
    · rw [gsI_off (by omega), setS_r e, hF.1 331 k (by omega) (by omega)]; exact hk2
  · rw [g 8 0 (by omega), hF.1 8 0 (by omega) (by omega)]; exact hW.2.2.1
  · rw [g 8 0 (by omega), hF.1 8 0 (by omega) (by omega)]; exact hW.2.2.2.1
  · show μ1.2.1 8 0 3 = _; rw [hF.2]; exact hW.2.2.2.2
theorem adF.kp {μ μ1 : gMem} (h : adF μ μ1) : mKp μ μ1 := fun k j hk => h.1 k j (by omega) (by omega)
