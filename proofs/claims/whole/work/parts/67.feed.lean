/-! feed -/
def bV (x : Int32) (r : Nat) : Int32 := (x >>> nI (24 - 8 * r)) &&& (255 : Int32)
def bS (x s : Int32) : Int32 := ((x.toUInt32 >>> (s.toUInt32 &&& Int32.toUInt32 31)).toInt32).toInt8.toInt32
theorem i32_tn (x : Int32) : x.toInt = if 2 * x.toBitVec.toNat < 4294967296 then (x.toBitVec.toNat : Int) else (x.toBitVec.toNat : Int) - 4294967296 := by
  have := BitVec.toInt_eq_toNat_cond x.toBitVec
  exact this
theorem i8_of {x y : Int32} (h : x.toBitVec.toNat % 256 = y.toBitVec.toNat % 256) : x.toInt8.toInt32 = y.toInt8.toInt32 := by
  have : x.toInt8 = y.toInt8 := by
    apply Int8.toBitVec_inj.mp
    apply BitVec.eq_of_toNat_eq
    show (x.toBitVec.signExtend 8).toNat = (y.toBitVec.signExtend 8).toNat
    rw [BitVec.signExtend_eq_setWidth_of_le _ (by decide), BitVec.signExtend_eq_setWidth_of_le _ (by decide), BitVec.toNat_setWidth, BitVec.toNat_setWidth]
    exact h
  rw [this]
theorem bS_bV {x : Int32} {r : Nat} (hr : r < 4) : bS x (nI (24 - 8 * r)) = (bV x r).toInt8.toInt32 := by
  unfold bS bV
  apply i8_of
  rw [pk_and _ 8 (by decide)]
  have hN := x.toBitVec.isLt
  have e0 := i32_tn x
  match r, hr with
  | 0, _ =>
    have e1 := pk_shr x (nI 24) 24 (by decide)
    have e2 := i32_tn (x >>> nI 24)
    have hM := (x >>> nI 24).toBitVec.isLt
    show _ = (nI ((x >>> nI 24).toBitVec.toNat % 2 ^ 8)).toBitVec.toNat % 256
    rw [show (24 - 8 * 0 : Nat) = 24 from rfl, pk_ushr x (nI 24) 24 (by decide), nI_tn]
    rw [Int.shiftRight_eq_div_pow] at e1
    have e3 : ((2 ^ 24 : Nat) : Int) = 16777216 := by decide
    rw [e3] at e1
    split at e0 <;> split at e2 <;> omega
  | 1, _ =>
    have e1 := pk_shr x (nI 16) 16 (by decide)
    have e2 := i32_tn (x >>> nI 16)
    have hM := (x >>> nI 16).toBitVec.isLt
    show _ = (nI ((x >>> nI 16).toBitVec.toNat % 2 ^ 8)).toBitVec.toNat % 256
    rw [show (24 - 8 * 1 : Nat) = 16 from rfl, pk_ushr x (nI 16) 16 (by decide), nI_tn]
    rw [Int.shiftRight_eq_div_pow] at e1
    have e3 : ((2 ^ 16 : Nat) : Int) = 65536 := by decide
    rw [e3] at e1
    split at e0 <;> split at e2 <;> omega
  | 2, _ =>
    have e1 := pk_shr x (nI 8) 8 (by decide)
    have e2 := i32_tn (x >>> nI 8)
    have hM := (x >>> nI 8).toBitVec.isLt
    show _ = (nI ((x >>> nI 8).toBitVec.toNat % 2 ^ 8)).toBitVec.toNat % 256
    rw [show (24 - 8 * 2 : Nat) = 8 from rfl, pk_ushr x (nI 8) 8 (by decide), nI_tn]
    rw [Int.shiftRight_eq_div_pow] at e1
    have e3 : ((2 ^ 8 : Nat) : Int) = 256 := by decide
    rw [e3] at e1
    split at e0 <;> split at e2 <;> omega
  | 3, _ =>
    have e1 := pk_shr x (nI 0) 0 (by decide)
    have e2 := i32_tn (x >>> nI 0)
    have hM := (x >>> nI 0).toBitVec.isLt
    show _ = (nI ((x >>> nI 0).toBitVec.toNat % 2 ^ 8)).toBitVec.toNat % 256
    rw [show (24 - 8 * 3 : Nat) = 0 from rfl, pk_ushr x (nI 0) 0 (by decide), nI_tn]
    rw [Int.shiftRight_eq_div_pow] at e1
    have e3 : ((2 ^ 0 : Nat) : Int) = 1 := by decide
    rw [e3] at e1
    split at e0 <;> split at e2 <;> omega
theorem bV_rng {x : Int32} {r : Nat} : inR (bV x r) 0 255 := by
  obtain ⟨j, hj, e⟩ := pk_andE (x >>> nI (24 - 8 * r)) (m := 255) 8 (by decide)
  unfold bV inR
  rw [e, nI_toInt (by omega)]
  omega
/-- the five ints in turn -/
def sel5 (x1 x2 x3 x4 x5 : Int32) (i : Nat) : Int32 := if i < 4 then x1 else if i < 8 then x2 else if i < 12 then x3 else if i < 16 then x4 else x5
def fedT (tp : Nat → Int32) (h : Nat) (x1 x2 x3 x4 x5 : Int32) : Nat → Int32 := fun k => if h ≤ k then bV (sel5 x1 x2 x3 x4 x5 (k - h)) ((k - h) % 4) else tp k
def setP (σ : sV) (π : Nat × (Nat → Int32) × Int32 × Int32) : sV := (σ.1, σ.2.1, σ.2.2.1, σ.2.2.2.1, σ.2.2.2.2.1, π)
def feedS (σ : sV) (x1 x2 x3 x4 x5 : Int32) : sV := if σ.2.2.2.2.2.1 ≤ 680 then setP σ (σ.2.2.2.2.2.1 + 20, fedT σ.2.2.2.2.2.2.1 σ.2.2.2.2.2.1 x1 x2 x3 x4 x5, σ.2.2.2.2.2.2.2) else σ
def feedV (σ : sV) : Int32 := if σ.2.2.2.2.2.1 ≤ 680 then nI (σ.2.2.2.2.2.1 + 20) else -1
theorem feedS_ok {σ : sV} {x1 x2 x3 x4 x5 : Int32} (h : sOkS σ) : sOkS (feedS σ x1 x2 x3 x4 x5) := by
  unfold feedS
  split
  · rename_i hc
    refine ⟨h.1, h.2.1, h.2.2.1, h.2.2.2.1, h.2.2.2.2.1, by show σ.2.2.2.2.2.1 + 20 ≤ 700; omega, fun k hk => ?_⟩
    show inR (fedT _ _ _ _ _ _ _ k) 0 255
    unfold fedT
    by_cases hk2 : σ.2.2.2.2.2.1 ≤ k
    · rw [if_pos hk2]; exact bV_rng
    · rw [if_neg hk2]; exact h.2.2.2.2.2.2 k (by omega)
  · exact h
/-- what feeding changes of the class -/
def feF (μ μ' : gMem) : Prop := (∀ k j, ¬ (k = 6 ∧ j = 0) → ¬ (k = 448 ∧ j = 0) → μ'.1 k j = μ.1 k j) ∧ μ'.2 = μ.2
theorem feF.rf {μ : gMem} : feF μ μ := ⟨fun _ _ _ _ => rfl, rfl⟩
theorem feF.tr {μ μ1 μ2 : gMem} (h : feF μ μ1) (h2 : feF μ1 μ2) : feF μ μ2 := ⟨fun k j a b => (h2.1 k j a b).trans (h.1 k j a b), h2.2.trans h.2⟩
theorem feF.put {μ μ1 : gMem} {k j : Nat} {v : Int32} (h : feF μ μ1) (hk : k = 6 ∨ k = 448) : feF μ (gsI μ1 k 0 j v) := ⟨fun a b c e => by rw [gsI_off (by omega)]; exact h.1 a b c e, h.2⟩
section FD
variable {l : Launch} {D : gD} {d : Nat} {μ : gMem} {t : Nat} {σ : sV} {x1 x2 x3 x4 x5 : Int32}
theorem append_1 {Γ : gC} {q : gMem → Prop} {h r : Nat} (hh : μ.1 6 0 2 = nI h) (hr : r < 4) (h7 : h < 700) (hq : ∀ μ', feF μ μ' → μ'.1 6 0 2 = nI (h + 1) → (∀ z, μ'.1 448 0 z = if z = h then (bV x1 r).toInt8.toInt32 else μ.1 448 0 z) → pt_X6_append_1 l D d q Γ 0 x1 (nI (24 - 8 * r) + (-8)) μ') : pt_X6_append_1 l D d q Γ 0 x1 (nI (24 - 8 * r)) μ := by
  refine bl_X6_append_1 (by decide) ⟨fun z => absurd z (nI_pos (by omega)), fun _ => ?_⟩
  rw [hh]
  refine ⟨fun z => absurd z (nI_ge (b := 700) (by omega) (by omega)), fun _ => ⟨h, h7, rfl, ?_⟩⟩
  rw [pk_vb]
  rintro μ1 e1
  have g6 : μ1.1 6 0 2 = nI h := by rw [e1, gsI_off (by omega)]; exact hh
  rw [g6, nI_1]
  rintro μ2 e2 _ rfl
  refine hq μ2 (by rw [e2, e1]; exact (feF.rf.put (by omega)).put (by omega)) (by rw [e2, gsI_s]) (fun z => ?_)
  rw [e2, gsI_off (by omega), e1, gsI_row, ← bS_bV hr]
  rfl
theorem c_X6_append {h : Nat} (hh : μ.1 6 0 2 = nI h) (h7 : h + 4 ≤ 700) : Ctr l D d yX6_append cX6_append 3 none [.ref (D.2.2 6 0), .int x1] μ (pV (fun μ' => feF μ μ' ∧ μ'.1 6 0 2 = nI (h + 4) ∧ ∀ z, μ'.1 448 0 z = if h ≤ z ∧ z < h + 4 then (bV x1 (z - h)).toInt8.toInt32 else μ.1 448 0 z)) := by
  refine en_X6_append (fun Γ => bl_X6_append_0 (by decide) ?_)
  rintro _ rfl
  refine append_1 (r := 0) hh (by omega) (by omega) (fun μ1 F1 s1 c1 => ?_)
  rw [show nI (24 - 8 * 0) + (-8) = nI (24 - 8 * 1) by decide]
  refine append_1 (r := 1) s1 (by omega) (by omega) (fun μ2 F2 s2 c2 => ?_)
  rw [show nI (24 - 8 * 1) + (-8) = nI (24 - 8 * 2) by decide]
  refine append_1 (r := 2) s2 (by omega) (by omega) (fun μ3 F3 s3 c3 => ?_)
  rw [show nI (24 - 8 * 2) + (-8) = nI (24 - 8 * 3) by decide]
  refine append_1 (r := 3) s3 (by omega) (by omega) (fun μ4 F4 s4 c4 => ?_)
  refine bl_X6_append_1 (by decide) ⟨fun _ => ⟨F1.tr (F2.tr (F3.tr F4)), s4, fun z => ?_⟩, fun z => absurd (by decide) z⟩
  rw [c4, c3, c2, c1]
  by_cases z3 : z = h + 1 + 1 + 1
  · rw [if_pos z3, if_pos (by omega), show z - h = 3 by omega]
  rw [if_neg z3]
  by_cases z2 : z = h + 1 + 1
  · rw [if_pos z2, if_pos (by omega), show z - h = 2 by omega]
  rw [if_neg z2]
  by_cases z1 : z = h + 1
  · rw [if_pos z1, if_pos (by omega), show z - h = 1 by omega]
  rw [if_neg z1]
  by_cases z0 : z = h
  · rw [if_pos z0, if_pos (by omega), show z - h = 0 by omega]
  · rw [if_neg z0, if_neg (by omega)]
theorem cSt_tp {μ2 : gMem} {π : Nat × (Nat → Int32) × Int32 × Int32} (h : cSt μ t σ) (hF : feF μ μ2) (hT : tpC μ2 π) : cSt μ2 t (setP σ π) ∧ mKp μ μ2 := by
  obtain ⟨a1, a2, aj, a3, a4, a5, a6, a7, a8⟩ := h
  have g : ∀ k j, ¬ k = 6 → ¬ k = 448 → μ2.1 k j = μ.1 k j := fun k j x y => hF.1 k j (by omega) (by omega)
  have h2 := hF.2
  have hw : ∀ w V, hC μ w V → hC μ2 w V := fun w V hh => hh.of (fun k _ => g 4 _ (by omega) (by omega)) (fun k _ => g 331 _ (by omega) (by omega)) ⟨by rw [g 8 w (by omega) (by omega)], by rw [g 8 w (by omega) (by omega)]⟩ (by rw [h2])
  exact ⟨⟨by rw [h2]; exact a1, by rw [g 8 0 (by omega) (by omega)]; exact a2, aj.of (fun i => g 4 i (by omega) (by omega)) (fun i => g 331 i (by omega) (by omega)), a3.of (fun k hk => g k t (by omega) (by omega)), hw 0 _ a4, a5.of (fun k hk => g k 0 (by omega) (by omega)), a6.of (by rw [g 9 0 (by omega) (by omega)]) (hw 1), a7.of (by rw [g 0 0 (by omega) (by omega)]) (fun k hk => g k 0 (by omega) (by omega)), hT⟩, fun k j hk => g k j (by omega) (by omega)⟩
theorem c_X9_feed (hd : 1 ≤ d) (h : cSt μ t σ) (hO : sOkS σ) : Ctr l D d yX9_feed cX9_feed 6 (some .int) [.ref (D.2.2 9 0), .int x1, .int x2, .int x3, .int x4, .int x5] μ (pI (fun v μ' => v = feedV σ ∧ cSt μ' t (feedS σ x1 x2 x3 x4 x5) ∧ mKp μ μ')) := by
  have hT := h.2.2.2.2.2.2.2.2
  have h7 := hO.2.2.2.2.2.1
  have lt : (700 : Int32) < μ.1 6 0 2 + 20 ↔ ¬ σ.2.2.2.2.2.1 ≤ 680 := by
    rw [hT.1, show (20 : Int32) = nI 20 from rfl, nI_add, show (700 : Int32) = nI 700 from rfl, nI_ltI (by omega) (by omega)]
    omega
  refine en_X9_feed (fun Γ => bl_X9_feed_0 (by decide) ⟨0, fun v μ' => v = bI (σ.2.2.2.2.2.1 ≤ 680) ∧ μ' = μ, by omega, en_X6_hasRoom (fun Γ => bl_X6_hasRoom_0 (by decide) ?_), ?_⟩)
  · rw [lt]
    exact ⟨fun z => ⟨by rw [bI, if_neg z], rfl⟩, fun z => ⟨by rw [bI, if_pos (Decidable.not_not.mp z)], rfl⟩⟩
  · rintro v μ0 ⟨rfl, rfl⟩
    by_cases hc : σ.2.2.2.2.2.1 ≤ 680
    · rw [bI, if_pos hc, feedV, if_pos hc, feedS, if_pos hc]
      refine ⟨fun _ => ⟨0, _, by omega, c_X6_append hT.1 (by omega), ?_⟩, fun z => absurd z (by decide)⟩
      rintro μ1 ⟨F1, s1, c1⟩
      refine ⟨0, _, by omega, c_X6_append s1 (by omega), ?_⟩
      rintro μ2 ⟨F2, s2, c2⟩
      refine ⟨0, _, by omega, c_X6_append s2 (by omega), ?_⟩
      rintro μ3 ⟨F3, s3, c3⟩
      refine ⟨0, _, by omega, c_X6_append s3 (by omega), ?_⟩
      rintro μ4 ⟨F4, s4, c4⟩
      refine ⟨0, _, by omega, c_X6_append s4 (by omega), ?_⟩
      rintro μ5 ⟨F5, s5, c5⟩
      have hF := F1.tr (F2.tr (F3.tr (F4.tr F5)))
      have g5 : μ5.1 5 0 = μ0.1 5 0 := hF.1 5 0 (by omega) (by omega)
      refine ⟨s5, cSt_tp h hF ⟨s5, fun k hk => ?_, by rw [g5]; exact hT.2.2.1, by rw [g5]; exact hT.2.2.2.1, by rw [hF.1 449 0 (by omega) (by omega)]; exact hT.2.2.2.2⟩⟩
      have hk : k < σ.2.2.2.2.2.1 + 20 := hk
      show μ5.1 448 0 k = (fedT _ _ _ _ _ _ _ k).toInt8.toInt32
      unfold fedT sel5
      rw [c5, c4, c3, c2, c1]
      generalize hg : σ.2.2.2.2.2.1 = hh at *
      by_cases k4 : hh + 16 ≤ k
      · rw [if_pos (by omega), if_pos (by omega), if_neg (by omega), if_neg (by omega), if_neg (by omega), if_neg (by omega), show k - (hh + 4 + 4 + 4 + 4) = (k - hh) % 4 by omega]
      rw [if_neg (by omega)]
      by_cases k3 : hh + 12 ≤ k
      · rw [if_pos (by omega), if_pos (by omega), if_neg (by omega), if_neg (by omega), if_neg (by omega), if_pos (by omega), show k - (hh + 4 + 4 + 4) = (k - hh) % 4 by omega]
      rw [if_neg (by omega)]
      by_cases k2 : hh + 8 ≤ k
      · rw [if_pos (by omega), if_pos (by omega), if_neg (by omega), if_neg (by omega), if_pos (by omega), show k - (hh + 4 + 4) = (k - hh) % 4 by omega]
      rw [if_neg (by omega)]
      by_cases k1 : hh + 4 ≤ k
      · rw [if_pos (by omega), if_pos (by omega), if_neg (by omega), if_pos (by omega), show k - (hh + 4) = (k - hh) % 4 by omega]
      rw [if_neg (by omega)]
      by_cases k0 : hh ≤ k
      · rw [if_pos (by omega), if_pos (by omega), if_pos (by omega), show k - hh = (k - hh) % 4 by omega, Nat.mod_mod]
      · rw [if_neg (by omega), if_neg k0]
        exact hT.2.1 k (by omega)
    · rw [bI, if_neg hc, feedV, if_neg hc, feedS, if_neg hc]
      exact ⟨fun z => absurd rfl z, fun _ => ⟨rfl, h, mKp.rf⟩⟩
end FD
section FDM
variable {l : Launch} {D : gD} {d : Nat} {μ : gMem} {σ : sV} {x1 x2 x3 x4 x5 : Int32}
theorem feedM_loop {Γ : gC} {q : Int32 → gMem → Prop} {h : Nat} {μ0 : gMem} (hh : μ0.1 10 0 2 = nI h) (h7 : h ≤ 680) (hq : ∀ μ', (∀ k j, ¬ (k = 705 ∧ j = 0) → ¬ (k = 10 ∧ j = 0) → μ'.1 k j = μ0.1 k j) → (∀ j, ¬ j = 2 → μ'.1 10 0 j = μ0.1 10 0 j) → μ'.2 = μ0.2 → μ'.1 10 0 2 = nI (h + 20) → (∀ z, μ'.1 705 0 z = if h ≤ z ∧ z < h + 20 then bV (sel5 x1 x2 x3 x4 x5 (z - h)) ((z - h) % 4) else μ0.1 705 0 z) → q (nI (h + 20)) μ') :
    ∀ (c j : Nat) (μ : gMem), j + c = 20 → rowF 705 μ0 μ → (∀ z, μ.1 705 0 z = if h ≤ z ∧ z < h + j then bV (sel5 x1 x2 x3 x4 x5 (z - h)) ((z - h) % 4) else μ0.1 705 0 z) → pt_X10_feed_1 l D d q Γ 0 x1 x2 x3 x4 x5 (nI j) μ := by
  have e20 : (20 : Int32) = nI 20 := rfl
  intro c
  induction c with
  | zero =>
    intro j μ hj hF hz
    obtain rfl : j = 20 := by omega
    refine bl_X10_feed_1 (by decide) ⟨fun _ => ?_, fun z => absurd (by rw [e20]; exact nI_le (Nat.le_refl _) (by omega)) z⟩
    have g : μ.1 10 0 = μ0.1 10 0 := hF.1 10 0 (by omega)
    rw [g, hh, e20, nI_add]
    rintro μ1 e1
    have s : μ1.1 10 0 2 = nI (h + 20) := by rw [e1, gsI_s]
    rw [s]
    refine hq μ1 (fun k j a b => by rw [e1, gsI_off (by omega)]; exact hF.1 k j a) (fun j a => by rw [e1, gsI_at, if_neg (by omega), g]) (by rw [e1]; exact hF.2) s (fun z => by rw [e1, gsI_off (by omega)]; exact hz z)
  | succ c ih =>
    intro j μ hj hF hz
    have g : μ.1 10 0 = μ0.1 10 0 := hF.1 10 0 (by omega)
    have ei : μ.1 10 0 2 + nI j = nI (h + j) := by rw [g, hh, nI_add]
    have es : (((24 : Int32) - ((8 : Int32) * (nI j - nI j / (4 : Int32) * (4 : Int32)))) &&& 31) = nI (24 - 8 * (j % 4)) := by
      rw [show (4 : Int32) = nI 4 from rfl, pk_rem (by omega) (by omega) (by omega), show (8 : Int32) = nI 8 from rfl, pk_mul, show (24 : Int32) = nI 24 from rfl, pk_sub (by omega), pk_andN (by omega) 5 (by decide), Nat.mod_eq_of_lt (by omega)]
    have fin : ∀ x : Int32, x = sel5 x1 x2 x3 x4 x5 j → pt_X10_feed_2 l D d q Γ 0 x1 x2 x3 x4 x5 (nI j) x μ := by
      intro x hx
      refine bl_X10_feed_2 (by decide) ?_
      rintro x7 e7
      refine ⟨h + j, by omega, ei, ?_⟩
      rw [es, e7, hx]
      rintro μ1 e1 _ rfl
      rw [nI_1]
      refine ih (j + 1) μ1 (by omega) (by rw [e1]; exact hF.put _ _) (fun z => ?_)
      rw [e1, gsI_row]
      show (if z = h + j then bV (sel5 x1 x2 x3 x4 x5 j) (j % 4) else μ.1 705 0 z) = _
      by_cases ez : z = h + j
      · rw [if_pos ez, if_pos (by omega), show z - h = j by omega]
      · rw [if_neg ez, hz z]
        by_cases e2 : h ≤ z ∧ z < h + j
        · rw [if_pos e2, if_pos (by omega)]
        · rw [if_neg e2, if_neg (by omega)]
    have le : ∀ b : Nat, b < 100 → (nI b ≤ nI j ↔ b ≤ j) := fun b hb => nI_leI (by omega) (by omega)
    refine bl_X10_feed_1 (by decide) ⟨fun z => absurd z (by rw [e20]; exact nI_ge (by omega) (by omega)), fun _ => ?_⟩
    rw [show (4 : Int32) = nI 4 from rfl, show (8 : Int32) = nI 8 from rfl, show (12 : Int32) = nI 12 from rfl, show (16 : Int32) = nI 16 from rfl, le 4 (by omega), le 8 (by omega), le 12 (by omega), le 16 (by omega)]
    unfold sel5 at fin
    refine ⟨fun z4 => ⟨fun z8 => ⟨fun z12 => ⟨fun z16 => fin _ ?_, fun z16 => fin _ ?_⟩, fun z12 => fin _ ?_⟩, fun z8 => fin _ ?_⟩, fun z4 => fin _ ?_⟩
    · rw [if_neg (by omega), if_neg (by omega), if_neg (by omega), if_neg (by omega)]
    · rw [if_neg (by omega), if_neg (by omega), if_neg (by omega), if_pos (by omega)]
    · rw [if_neg (by omega), if_neg (by omega), if_pos (by omega)]
    · rw [if_neg (by omega), if_pos (by omega)]
    · rw [if_pos (by omega)]
theorem c_X10_feed (h : mSt μ σ) (hO : sOkS σ) : Ctr l D d yX10_feed cX10_feed 8 (some .int) [.ref (D.2.2 10 0), .int x1, .int x2, .int x3, .int x4, .int x5] μ (pI (fun v μ' => v = feedV σ ∧ mSt μ' (feedS σ x1 x2 x3 x4 x5) ∧ cKp μ μ')) := by
  have h7 := hO.2.2.2.2.2.1
  refine en_X10_feed (fun Γ => bl_X10_feed_0 (by decide) ?_)
  rintro μ0 e0
  obtain ⟨h1, hK⟩ : mSt μ0 σ ∧ cKp μ μ0 := by rw [e0]; exact h.th hO
  clear e0
  have hT := h1.2.2.2.2.2.2
  have le : μ0.1 10 0 2 ≤ (680 : Int32) ↔ σ.2.2.2.2.2.1 ≤ 680 := by rw [hT.1]; exact nI_leI (b := 680) (by omega) (by omega)
  rw [le]
  refine ⟨fun z => ?_, fun z => ⟨by rw [feedV, if_neg z], by rw [feedS, if_neg z]; exact h1, hK⟩⟩
  rintro _ rfl
  rw [feedV, if_pos z, feedS, if_pos z]
  refine feedM_loop (μ0 := μ0) hT.1 z (fun μ' g g10 g2 s c => ⟨rfl, ?_, hK.tr ⟨fun k j a b => g k j (by omega) (by omega), by rw [g2], fun k j _ => by rw [g2]⟩⟩) 20 0 μ0 (by omega) rowF.rf (fun z => by rw [if_neg (by omega)])
  obtain ⟨a1, a2, a3, a4, a5, a6, a7⟩ := h1
  have gk : ∀ k, ¬ k = 705 → ¬ k = 10 → μ'.1 k 0 = μ0.1 k 0 := fun k x y => g k 0 (by omega) (by omega)
  have hw : ∀ m V, hM μ0 (eMen σ.1.1) m V → hM μ' (eMen σ.1.1) m V := fun m V hh => hh.of (fun k _ _ z _ _ => by rw [gk k (by omega) (by omega)]) (fun z _ _ => by rw [gk 751 (by omega) (by omega)]) (fun k _ _ => by rw [gk k (by omega) (by omega)])
  refine ⟨by rw [g10 51 (by omega), g10 52 (by omega)]; exact a1, a2.of (fun k hk => gk k (by omega) (by omega)), hw 0 _ a3, a4.of (fun k hk => gk k (by omega) (by omega)) (fun j hj => g10 j (by omega)), a5.of (g10 49 (by omega)) (hw 2), ⟨by rw [g10 50 (by omega)]; exact a6.1, fun k hk => hw _ _ (a6.2 k hk)⟩, s, fun k hk => ?_, by rw [g10 26 (by omega)]; exact hT.2.2.1, by rw [g10 27 (by omega)]; exact hT.2.2.2⟩
  have hk : k < σ.2.2.2.2.2.1 + 20 := hk
  rw [c]
  show _ = fedT _ _ _ _ _ _ _ k
  unfold fedT
  by_cases hk2 : σ.2.2.2.2.2.1 ≤ k
  · rw [if_pos ⟨hk2, hk⟩, if_pos hk2]
  · rw [if_neg (fun w => hk2 w.1), if_neg hk2]
    exact hT.2.1 k (by omega)
end FDM
