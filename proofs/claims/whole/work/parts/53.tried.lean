/-! tried: days ahead, otherwise -/
/-- a sum over the first n -/
def smF (f : Nat → Int32) : Nat → Int32
  | 0 => 0
  | n + 1 => smF f n + f n
theorem smF_cong {f g : Nat → Int32} : ∀ n, (∀ k, k < n → f k = g k) → smF f n = smF g n := by
  intro n
  induction n with
  | zero => intro _; rfl
  | succ n ih =>
    intro h
    rw [smF, smF, ih (fun k hk => h k (by omega)), h n (by omega)]
theorem psum_0 (f : Nat → Int32) : ∀ n, psum f (fun _ => 0) n = 0 := by
  intro n
  induction n with
  | zero => rfl
  | succ n ih => rw [psum, ih, Int32.mul_zero, Int32.add_zero]
section FL
variable {l : Launch} {D : gD} {d : Nat} {μ : gMem}
theorem fill_loop {Γ : gC} {q : gMem → Prop} {k0 i0 L : Nat} {x1 : Int32} {μ0 : gMem} (hk0 : gsh k0 = (1, (gsh k0).2.1, 0)) (hi0 : i0 < gkn k0) (hL : (gsh k0).2.1 = L) (hL2 : L < 2 ^ 31) (hq : ∀ μ', (∀ k i, ¬ (k = k0 ∧ i = i0) → μ'.1 k i = μ0.1 k i) → (∀ z, μ'.1 k0 i0 z = if z < L then x1 else μ0.1 k0 i0 z) → μ'.2 = μ0.2 → q μ') :
    ∀ (c j : Nat) (μ : gMem), j + c = L → (∀ k i, ¬ (k = k0 ∧ i = i0) → μ.1 k i = μ0.1 k i) → (∀ z, μ.1 k0 i0 z = if z < j then x1 else μ0.1 k0 i0 z) → μ.2 = μ0.2 → pt_J7_fill_53178_1 l D d q Γ k0 i0 x1 (nI j) (nI L) μ := by
  intro c
  induction c with
  | zero =>
    intro j μ hj h1 h2 h3
    obtain rfl : j = L := by omega
    exact bl_J7_fill_53178_1 hk0 hi0 ⟨fun _ => hq μ h1 h2 h3, fun z => absurd (nI_le (Nat.le_refl _) (by omega)) z⟩
  | succ c ih =>
    intro j μ hj h1 h2 h3
    refine bl_J7_fill_53178_1 hk0 hi0 ⟨fun z => absurd z (nI_ge (by omega) (by omega)), fun _ => ⟨j, by omega, by omega, rfl, ?_⟩⟩
    rintro μ1 e _ rfl
    rw [nI_1]
    refine ih (j + 1) μ1 (by omega) (fun k i hk => by rw [e, gsI_off hk]; exact h1 k i hk) (fun z => ?_) (by rw [e]; exact h3)
    rw [e, gsI_row]
    show (if z = j then x1 else μ.1 k0 i0 z) = _
    rw [h2 z]
    by_cases hz : z = j
    · rw [if_pos hz, if_pos (by omega)]
    · rw [if_neg hz]
      by_cases hz2 : z < j
      · rw [if_pos hz2, if_pos (by omega)]
      · rw [if_neg hz2, if_neg (by omega)]
theorem c_fill {k0 i0 L : Nat} {x1 : Int32} (hk0 : gsh k0 = (1, (gsh k0).2.1, 0)) (hi0 : i0 < gkn k0) (hL : (gsh k0).2.1 = L) (hL2 : L < 2 ^ 31) : Ctr l D d yJ7_fill_53178 cJ7_fill_53178 4 none [.ref (D.2.2 k0 i0), .int x1] μ (pV (fun μ' => (∀ k i, ¬ (k = k0 ∧ i = i0) → μ'.1 k i = μ.1 k i) ∧ (∀ z, μ'.1 k0 i0 z = if z < L then x1 else μ.1 k0 i0 z) ∧ μ'.2 = μ.2)) := by
  refine en_J7_fill_53178 (fun Γ => bl_J7_fill_53178_0 hk0 hi0 ?_)
  rw [hL]
  rintro _ rfl _ rfl
  exact fill_loop hk0 hi0 hL hL2 (fun μ' a b c => ⟨a, b, c⟩) L 0 μ (by omega) (fun _ _ _ => rfl) (fun z => by rw [if_neg (by omega)]) rfl
/-- the slot that inAll sums -/
def iaS (x : Int32) : Nat := if x = 0 then 5 else if x = 1 then 6 else if x = 2 then 7 else if x = 3 then 8 else 3
theorem inAll_loop {Γ : gC} {q : Int32 → gMem → Prop} {w men : Nat} {x1 : Int32} (hw : w < 3) (hm : men ≤ 5) (hq : q (smF (fun k => μ.1 4 (5 * w + k) (iaS x1)) men) μ) :
    ∀ (c j : Nat), j + c = men → pt_X8_inAll_1 l D d q Γ w x1 (nI men) (smF (fun k => μ.1 4 (5 * w + k) (iaS x1)) j) (nI j) μ := by
  intro c
  induction c with
  | zero =>
    intro j hj
    obtain rfl : j = men := by omega
    exact bl_X8_inAll_1 hw ⟨fun _ => hq, fun z => absurd (nI_le (Nat.le_refl _) (by omega)) z⟩
  | succ c ih =>
    intro j hj
    have nx : ∀ x : Int32, x = smF (fun k => μ.1 4 (5 * w + k) (iaS x1)) j + μ.1 4 (5 * w + j) (iaS x1) → pt_X8_inAll_2 l D d q Γ w x1 (nI men) x (nI j) μ := by
      intro x hx
      refine bl_X8_inAll_2 hw ?_
      rintro _ rfl
      rw [nI_1, hx]
      exact ih (j + 1) (by omega)
    refine bl_X8_inAll_1 hw ⟨fun z => absurd z (nI_ge (by omega) (by omega)), fun _ => ⟨j, by omega, rfl, fun h => ?_, fun h => ?_, fun h => ?_, fun h => ?_, fun h => ?_⟩⟩
    · rintro _ rfl
      exact nx _ (by rw [show iaS x1 = 5 by rw [h]; decide])
    · rintro _ rfl
      exact nx _ (by rw [show iaS x1 = 6 by rw [h]; decide])
    · rintro _ rfl
      exact nx _ (by rw [show iaS x1 = 7 by rw [h]; decide])
    · rintro _ rfl
      exact nx _ (by rw [show iaS x1 = 8 by rw [h]; decide])
    · rintro _ rfl
      exact nx _ (by rw [show iaS x1 = 3 by rw [iaS, if_neg h.1, if_neg h.2.1, if_neg h.2.2.1, if_neg h.2.2.2]])
theorem c_X8_inAll {w men : Nat} {x1 x2 : Int32} (hx : x2 = nI men) (hw : w < 3) (hm : men ≤ 5) : Ctr l D d yX8_inAll cX8_inAll 6 (some .int) [.ref (D.2.2 8 w), .int x1, .int x2] μ (pI (fun v μ' => v = smF (fun k => μ.1 4 (5 * w + k) (iaS x1)) men ∧ μ' = μ)) := by
  subst hx
  refine en_X8_inAll (fun Γ => bl_X8_inAll_0 hw ?_)
  rintro _ rfl _ rfl
  exact inAll_loop hw hm ⟨rfl, rfl⟩ men 0 (by omega)
theorem sumOf_loop {Γ : gC} {q : Int32 → gMem → Prop} {k1 w men : Nat} (hk1 : gsh k1 = (1, 115, 0)) (hi1 : 0 < gkn k1) (hw : w < 23) (hm : men ≤ 5) (h7 : μ.1 707 0 0 = nI men) (hq : q (smF (fun k => μ.1 k1 0 (5 * w + k)) men) μ) :
    ∀ (c j : Nat), j + c = men → pt_X10_sumOf_1 l D d q Γ 0 k1 0 (nI w) (smF (fun k => μ.1 k1 0 (5 * w + k)) j) (nI j) μ := by
  have hk2 : gsh k1 = (1, (gsh k1).2.1, 0) := by rw [hk1]
  have hk3 : (gsh k1).2.1 = 115 := by rw [hk1]
  intro c
  induction c with
  | zero =>
    intro j hj
    obtain rfl : j = men := by omega
    refine bl_X10_sumOf_1 (by decide) hk2 hi1 ⟨fun _ => hq, fun z => ?_⟩
    rw [h7] at z
    exact absurd (nI_le (Nat.le_refl _) (by omega)) z
  | succ c ih =>
    intro j hj
    refine bl_X10_sumOf_1 (by decide) hk2 hi1 ⟨fun z => ?_, fun _ => ⟨5 * w + j, by rw [hk3]; omega, by rw [hk3]; decide, ix5 w j, ?_⟩⟩
    · rw [h7] at z
      exact absurd z (nI_ge (by omega) (by omega))
    · rintro _ rfl _ rfl
      rw [nI_1]
      exact ih (j + 1) (by omega)
theorem c_X10_sumOf {k1 w men : Nat} {x2 : Int32} (hx : x2 = nI w) (hk1 : gsh k1 = (1, 115, 0)) (hi1 : 0 < gkn k1) (hw : w < 23) (hm : men ≤ 5) (h7 : μ.1 707 0 0 = nI men) : Ctr l D d yX10_sumOf cX10_sumOf 5 (some .int) [.ref (D.2.2 10 0), .ref (D.2.2 k1 0), .int x2] μ (pI (fun v μ' => v = smF (fun k => μ.1 k1 0 (5 * w + k)) men ∧ μ' = μ)) := by
  subst hx
  refine en_X10_sumOf (fun Γ => bl_X10_sumOf_0 (by decide) (by rw [hk1]) hi1 ?_)
  rintro _ rfl _ rfl
  exact sumOf_loop hk1 hi1 hw hm h7 ⟨rfl, rfl⟩ men 0 (by omega)
end FL
def triG (x1 x2 : Int32) : Int32 := if x1 = 2 then x2 else -1
def triA (A : wEnv) (x1 x2 : Int32) : wEnv := (A.1, A.2.1, A.2.2.1, ((if x1 = 4 then fun _ => 0 else A.2.2.2.1.1), (if x1 = 4 then fun _ => 0 else A.2.2.2.1.2.1), A.2.2.2.1.2.2), (triG x1 x2, (if x1 = 5 then 1 else 0), fun p => decide (¬ nI p = triG x1 x2)))
def triS (A : wEnv) (x1 : Int32) (S : pplS) : pplS := fun k z => if k < eMen A ∧ z = 10 ∧ x1 = 3 then 1 else S k z
noncomputable def triF (A : wEnv) (wet : Int32) (dy : Nat) (S : pplS) (x1 x2 x3 : Int32) : Int32 := if inR x1 0 5 ∧ inR x3 0 60 ∧ (x1 = 2 → isM (eMen A) x2) ∧ (¬ x1 = 2 → x2 = 0) then smF (fun p => runF (triA A x1 x2) (if x1 = 1 then 0 else wet) (ix x3) dy (triS A x1 S) p 5) (eMen A) - smF (fun p => S p 5) (eMen A) else -1
theorem triA_ok {A : wEnv} {x1 x2 : Int32} (h : okA A) : okA (triA A x1 x2) := by
  refine ⟨h.1, h.2.1, h.2.2.1, h.2.2.2.1, fun p hp => ?_⟩
  show 0 ≤ ((if x1 = 4 then fun _ => 0 else A.2.2.2.1.2.1) p).toInt ∧ ((if x1 = 4 then fun _ => 0 else A.2.2.2.1.2.1) p).toInt ≤ 2000
  split
  · show 0 ≤ (0 : Int32).toInt ∧ (0 : Int32).toInt ≤ 2000
    rw [i32_0]
    omega
  · exact h.2.2.2.2 p hp
theorem triS_ok {A : wEnv} {x1 x2 : Int32} {S : pplS} {dy : Nat} (h : okS A 0 S dy) : okS (triA A x1 x2) 0 (triS A x1 S) dy := by
  have o : ∀ k z, ¬ z = 10 → triS A x1 S k z = S k z := fun k z hz => if_neg (fun w => hz w.2.1)
  refine ⟨fun p hp => ?_, fun k hk => ?_, fun k h1 h2 => ?_, fun k hk => ?_⟩
  · unfold pOk
    rw [o p 0 (by omega), o p 1 (by omega), o p 9 (by omega), o p 2 (by omega)]
    exact h.1 p hp
  · rw [o k 4 (by omega)]; exact h.2.1 k hk
  · rw [o k 4 (by omega)]; exact h.2.2.1 k h1 h2
  · show (if k < eMen A ∧ (10 : Nat) = 10 ∧ x1 = 3 then (1 : Int32) else S k 10) = 0 ∨ (if k < eMen A ∧ (10 : Nat) = 10 ∧ x1 = 3 then (1 : Int32) else S k 10) = 1
    split
    · exact Or.inr rfl
    · exact h.2.2.2 k hk
section Q6
variable {l : Launch} {D : gD} {d : Nat} {μ : gMem} {t n dy : Nat} {A : wEnv} {S : pplS} {x1 x2 x3 : Int32}
theorem c_lookAll (hd : 3 ≤ d) (h : nC μ t n A S dy) : Ctr l D d yX9_lookAtAll cX9_lookAtAll 1 none [.ref (D.2.2 9 0)] μ (pV (fun μ' => cqF μ μ' ∧ nC μ' t n A S dy ∧ wC μ' t n 2 A 0 S dy ∧ (∀ k, k < 5 → μ'.1 331 (10 + k) = μ.1 331 k) ∧ (∀ k, k < 5 → μ'.1 4 (10 + k) = μ.1 4 k) ∧ μ'.1 8 2 5 = -1 ∧ μ'.1 8 2 6 = -1)) := by
  refine en_X9_lookAtAll (fun Γ => bl_X9_lookAtAll_0 (by decide) ⟨2, _, by omega, c_X8_copyFrom (w0 := 2) (w1 := 0) (by omega) (by decide) (by decide) (by decide) h.jk ?_, ?_⟩)
  · intro k hk
    rw [h.2.2.1.2.2.2.2.1.1 k hk]
    exact h.2.2.1.2.2.2.2.2.1.2.2.2 k hk
  · intro μ' hc
    have hw := trial_is h hc
    have hF := hc.1.cq
    refine ⟨hF, h.cq hF hc.2.2.2.2, hw, fun k hk => ?_, fun k hk => ?_, hc.2.2.2.1.2.1, hc.2.2.2.1.2.2.1⟩
    · have := (hc.2.1 k hk).2
      rw [Nat.mul_zero, Nat.zero_add] at this
      exact this
    · have := (hc.2.1 k hk).1
      rw [Nat.mul_zero, Nat.zero_add] at this
      exact this
theorem triedC_days {Γ : gC} {q : Int32 → gMem → Prop} {A' : wEnv} {S' : pplS} {m : Nat} {wet v : Int32} {μ0 : gMem} (hd : 7 ≤ d) (hmen : eMen A' = eMen A) (hmm : m ≤ 60) (hdy : dy ≤ 9900) (h0 : nC μ0 t n A S dy) (hv : smF (fun p => runF A' wet m dy S' p 5) (eMen A) - smF (fun p => S p 5) (eMen A) = v) (hq : ∀ μ', cqF μ0 μ' → jk μ' → q v μ') :
    ∀ (c j : Nat) (μ : gMem), j + c = m → cqF μ0 μ → wC μ t n 2 A' 0 (runF A' wet j dy S') (dy + j) → pt_X9_tried_10 l D d q Γ 0 (nI m) wet (nI j) μ := by
  intro c
  induction c with
  | zero =>
    intro j μ hj hF hw
    obtain rfl : j = m := by omega
    have hn := h0.cq hF hw.2.2.2.2.1.2
    have h5 := hn.men
    refine bl_X9_tried_10 (by decide) ⟨fun _ => ?_, fun z => absurd (nI_le (Nat.le_refl _) (by omega)) z⟩
    rw [hn.1]
    refine ⟨hn.2.1, 0, _, by omega, c_X8_inAll (men := eMen A) hn.m7 (by decide) h5, ?_⟩
    rintro v1 μ1 ⟨rfl, rfl⟩
    rw [hn.1]
    refine ⟨hn.2.1, 0, _, by omega, c_X8_inAll (men := eMen A) hn.m7 (by decide) h5, ?_⟩
    rintro v2 μ2 ⟨rfl, rfl⟩
    have e1 : smF (fun k => μ2.1 4 (5 * 2 + k) (iaS 0)) (eMen A) = smF (fun p => runF A' wet j dy S' p 5) (eMen A) := smF_cong _ (fun k hk => by rw [hw.2.2.2.2.1.1 k (by omega)]; rfl)
    have e2 : smF (fun k => μ2.1 4 (5 * 0 + k) (iaS 0)) (eMen A) = smF (fun p => S p 5) (eMen A) := smF_cong _ (fun k hk => by rw [Nat.mul_zero, Nat.zero_add, hn.row (by omega)]; rfl)
    rw [e1, e2, hv]
    exact hq _ hF hn.jk
  | succ c ih =>
    intro j μ hj hF hw
    have e0 : μ.2.2 0 = t := by rw [hF.2.1]; exact h0.1
    refine bl_X9_tried_10 (by decide) ⟨fun z => absurd z (nI_ge (by omega) (by omega)), fun _ => ?_⟩
    rw [e0]
    refine ⟨h0.2.1, 5, _, by omega, d_X8_passDay (by omega) (by decide) h0.2.1 hw (by omega) (by omega), ?_⟩
    rintro μ1 ⟨hF1, hw1, -, -⟩ _ rfl
    rw [nI_1]
    exact ih (j + 1) μ1 (by omega) (hF.tr hF1.cq) hw1
/-- the people of the trial, those ahead of j changed -/
def triI (μ0 μ : gMem) (A : wEnv) (S : pplS) (x1 x2 : Int32) (dy j : Nat) : Prop := cqF μ0 μ ∧ jk μ ∧ (∀ k, k < 5 → μ.1 4 (10 + k) = if k < j then triS A x1 S k else S k) ∧ (∀ k, k < 5 → μ.1 331 (10 + k) = if k < j ∧ x1 = 4 then (fun _ => 0) else μ0.1 331 k) ∧ μ.1 8 2 1 = nI dy ∧ μ.1 8 2 5 = triG x1 x2 ∧ μ.1 8 2 6 = -1 ∧ μ.1 8 2 7 = (if x1 = 5 then 1 else 0)
theorem triI_wC {μ0 μ : gMem} (h0 : nC μ0 t n A S dy) (h : triI μ0 μ A S x1 x2 dy (eMen A)) : wC μ t n 2 (triA A x1 x2) 0 (triS A x1 S) dy := by
  obtain ⟨hF, hj, hr, hp, h1, h5, h6, h7⟩ := h
  have hT := hF.tC h0.2.2.1.1
  have hm5 := h0.men
  have hps := h0.2.2.1.2.2.2.1
  refine ⟨hT, triA_ok h0.2.2.1.2.1, ⟨h5, h7, fun p hp2 => ?_⟩, fun p hp2 => ?_, ⟨fun k hk => ?_, hj⟩, triS_ok h0.2.2.1.2.2.2.2.2.1, h1⟩
  · show (decide (¬ nI p = triG x1 x2) = true) ↔ (¬ nI p = triG x1 x2 ∧ _)
    rw [decide_eq_true_eq, h6]
    exact ⟨fun z => ⟨z, Or.inl rfl⟩, fun z => z.1⟩
  · have hp3 : p < eMen A := hp2
    have r := hp p (by omega)
    have o := hps p hp3
    rw [Nat.mul_zero, Nat.zero_add] at o
    rw [hF.1 519 t (by omega) (by omega), hF.1 520 t (by omega) (by omega), show 5 * 2 + p = 10 + p by omega, r]
    show _ = (if x1 = 4 then fun _ => 0 else A.2.2.2.1.1) p ∧ _ = (if x1 = 4 then fun _ => 0 else A.2.2.2.1.2.1) p
    by_cases h4 : x1 = 4
    · rw [if_pos ⟨hp3, h4⟩, if_pos h4, if_pos h4, psum_0, psum_0]
      exact ⟨rfl, rfl⟩
    · rw [if_neg (fun z => h4 z.2), if_neg h4, if_neg h4]
      exact o
  · rw [show 5 * 2 + k = 10 + k by omega, hr k hk]
    by_cases hk2 : k < eMen A
    · rw [if_pos hk2]
    · rw [if_neg hk2]
      funext z
      exact (if_neg (fun w => hk2 w.1)).symm
theorem triedC_people {Γ : gC} {q : Int32 → gMem → Prop} {x4 : Int32} {μ0 : gMem} (hd : 7 ≤ d) (h0 : nC μ0 t n A S dy) (hq : ∀ μ', triI μ0 μ' A S x1 x2 dy (eMen A) → pt_X9_tried_10 l D d q Γ 0 x3 x4 0 μ') :
    ∀ (c j : Nat) (μ : gMem), j + c = eMen A → triI μ0 μ A S x1 x2 dy j → pt_X9_tried_6 l D d q Γ 0 x1 x3 x4 (nI j) μ := by
  have hm5 := h0.men
  intro c
  induction c with
  | zero =>
    intro j μ hj hI
    obtain rfl : j = eMen A := by omega
    have e0 : μ.2.2 0 = t := by rw [hI.1.2.1]; exact h0.1
    have e7 : μ.1 7 t 0 = nI (eMen A) := by rw [hI.1.1 7 t (by omega) (by omega)]; exact h0.m7
    refine bl_X9_tried_6 (by decide) ?_
    rw [e0, e7]
    refine ⟨h0.2.1, fun _ => ?_, fun z => absurd (nI_le (Nat.le_refl _) (by omega)) z⟩
    rintro _ rfl
    exact hq μ hI
  | succ c ih =>
    intro j μ hj hI
    have hI' := hI
    obtain ⟨hF, hjk, hr, hp, h1, h5, h6, h7⟩ := hI
    have e0 : μ.2.2 0 = t := by rw [hF.2.1]; exact h0.1
    have e7 : μ.1 7 t 0 = nI (eMen A) := by rw [hF.1 7 t (by omega) (by omega)]; exact h0.m7
    have hb := h0.2.2.1.2.2.2.2.2.1.2.2.2 j (by omega)
    have rj : μ.1 4 (10 + j) = S j := by rw [hr j (by omega), if_neg (by omega)]
    have pj : μ.1 331 (10 + j) = μ0.1 331 j := by rw [hp j (by omega), if_neg (by omega)]
    -- behind both
    have nx : ∀ μ', cqF μ μ' → jk μ' → μ'.1 4 (10 + j) = triS A x1 S j → μ'.1 331 (10 + j) = (if x1 = 4 then (fun _ => 0) else μ0.1 331 j) → (∀ k, k < 5 → ¬ k = j → μ'.1 4 (10 + k) = μ.1 4 (10 + k) ∧ μ'.1 331 (10 + k) = μ.1 331 (10 + k)) → μ'.1 8 2 = μ.1 8 2 → pt_X9_tried_9 l D d q Γ 0 x1 x3 x4 (nI j) μ' := by
      intro μ' hF' hj' a1 a2 a3 a4
      refine bl_X9_tried_9 (by decide) ?_
      rintro _ rfl
      rw [nI_1]
      refine ih (j + 1) μ' (by omega) ⟨hF.tr hF', hj', fun k hk => ?_, fun k hk => ?_, by rw [a4]; exact h1, by rw [a4]; exact h5, by rw [a4]; exact h6, by rw [a4]; exact h7⟩
      · by_cases e : k = j
        · subst e
          rw [a1, if_pos (by omega)]
        · rw [(a3 k hk e).1, hr k hk]
          by_cases hk2 : k < j
          · rw [if_pos hk2, if_pos (by omega)]
          · rw [if_neg hk2, if_neg (by omega)]
      · by_cases e : k = j
        · subst e
          rw [a2]
          by_cases h4 : x1 = 4
          · rw [if_pos h4, if_pos ⟨by omega, h4⟩]
          · rw [if_neg h4, if_neg (fun z => h4 z.2)]
        · rw [(a3 k hk e).2, hp k hk]
          by_cases hk2 : k < j ∧ x1 = 4
          · rw [if_pos hk2, if_pos ⟨by omega, hk2.2⟩]
          · rw [if_neg hk2, if_neg (fun z => hk2 ⟨by omega, z.2⟩)]
    have at8 : ∀ v : Int32, (v = 0 ∨ v = 1) → v = triS A x1 S j 10 → pt_X9_tried_8 l D d q Γ 0 x1 x3 x4 (nI j) (5 * 2 + j) (5 * 2 + j) v μ := by
      intro v hv hv2
      refine bl_X9_tried_8 (by decide) (by omega) (by omega) ⟨hv, ?_⟩
      rw [show 5 * 2 + j = 10 + j by omega]
      rintro μ1 e1
      have hF1 : cqF μ μ1 := by rw [e1]; exact cqF.rf.put (by omega)
      have hj1 : jk μ1 := ⟨fun i z hz => by rw [e1, gsI_at, if_neg (by omega)]; exact hjk.1 i z hz, fun i z hz => by rw [e1, gsI_at, if_neg (by omega)]; exact hjk.2 i z hz⟩
      have r1 : μ1.1 4 (10 + j) = triS A x1 S j := by
        rw [e1, gsI_row, rj]
        funext z
        by_cases hz : z = 10
        · rw [if_pos hz, hv2, hz]
        · rw [if_neg hz]
          exact (if_neg (fun w => hz w.2.1)).symm
      have o1 : ∀ k, k < 5 → ¬ k = j → μ1.1 4 (10 + k) = μ.1 4 (10 + k) := fun k hk e => by rw [e1, gsI_off (by omega)]
      have g1 : ∀ i, μ1.1 331 i = μ.1 331 i := fun i => by rw [e1, gsI_off (by omega)]
      have g8 : μ1.1 8 2 = μ.1 8 2 := by rw [e1, gsI_off (by omega)]
      refine ⟨fun h4 => ?_, fun h4 => ⟨0, _, by omega, c_fill (k0 := 331) (L := 6) rfl (by show 10 + j < 15; omega) rfl (by decide), ?_⟩⟩
      · exact nx μ1 hF1 hj1 r1 (by rw [g1, pj, if_neg h4]) (fun k hk e => ⟨o1 k hk e, g1 _⟩) g8
      · rintro μ2 ⟨a1, a2, a3⟩
        have hF2 : cqF μ1 μ2 := ⟨fun k i h _ => a1 k i (by omega), by rw [a3], fun k i _ _ _ _ => by rw [a3]⟩
        have row : μ2.1 331 (10 + j) = fun _ => 0 := by
          funext z
          rw [a2 z]
          split
          · rfl
          · exact hj1.2 _ z (by omega)
        refine nx μ2 (hF1.tr hF2) ⟨fun i z hz => by rw [a1 4 i (by omega)]; exact hj1.1 i z hz, fun i z hz => ?_⟩ (by rw [a1 4 _ (by omega)]; exact r1) (by rw [row, if_pos h4]) (fun k hk e => ⟨by rw [a1 4 _ (by omega)]; exact o1 k hk e, by rw [a1 331 _ (by omega), g1]⟩) (by rw [a1 8 2 (by omega)]; exact g8)
        by_cases e : i = 10 + j
        · subst e
          rw [row]
        · rw [a1 331 i (by omega)]
          exact hj1.2 i z hz
    refine bl_X9_tried_6 (by decide) ?_
    rw [e0, e7]
    refine ⟨h0.2.1, fun z => absurd z (nI_ge (by omega) (by omega)), fun _ => ⟨j, by omega, rfl, ?_⟩⟩
    rw [show μ.1 4 (5 * 2 + j) 10 = S j 10 by rw [show 5 * 2 + j = 10 + j by omega, rj]]
    have tr3 : triS A x1 S j 10 = if x1 = 3 then 1 else S j 10 := by
      show (if j < eMen A ∧ (10 : Nat) = 10 ∧ x1 = 3 then (1 : Int32) else S j 10) = _
      by_cases h3 : x1 = 3
      · rw [if_pos h3, if_pos ⟨by omega, rfl, h3⟩]
      · rw [if_neg h3, if_neg (fun w => h3 w.2.2)]
    refine ⟨fun z => bl_X9_tried_7 (by decide) (by omega) (by omega) (at8 1 (Or.inr rfl) ?_), fun z => ⟨fun h3 => at8 0 (Or.inl rfl) ?_, fun h3 => bl_X9_tried_7 (by decide) (by omega) (by omega) (at8 1 (Or.inr rfl) ?_)⟩⟩
    · rw [tr3]
      by_cases h3 : x1 = 3
      · rw [if_pos h3]
      · rw [if_neg h3]
        rcases hb with w | w
        · exact absurd w z
        · exact w.symm
    · rw [tr3, if_neg h3, z]
    · rw [tr3, if_pos h3]
theorem c_X9_tried (hd : 7 ≤ d) (h : nC μ t n A S dy) : Ctr l D d yX9_tried cX9_tried 7 (some .int) [.ref (D.2.2 9 0), .int x1, .int x2, .int x3] μ (pI (fun v μ' => v = triF A (wtC μ t) dy S x1 x2 x3 ∧ cqF μ μ' ∧ jk μ')) := by
  have h5 := h.men
  have hdy := h.2.2.2.2.1
  refine en_X9_tried (fun Γ => bl_X9_tried_0 (by decide) ?_)
  rw [h.1, h.iw, iw_lit (x := x1) (za := 0) (zb := 5) (by decide) (by decide), iw_lit (x := x3) (za := 0) (zb := 60) (by decide) (by decide)]
  have body : inR x1 0 5 → inR x3 0 60 → (x1 = 2 → isM (eMen A) x2) → (¬ x1 = 2 → x2 = 0) → pt_X9_tried_1 l D d (fun v μ' => v = triF A (wtC μ t) dy S x1 x2 x3 ∧ cqF μ μ' ∧ jk μ') Γ 0 x1 x2 x3 μ := by
    intro z1 z3 z2 z4
    obtain ⟨n1, n2⟩ := inR_ix (b := 60) z3
    have val : triF A (wtC μ t) dy S x1 x2 x3 = smF (fun p => runF (triA A x1 x2) (if x1 = 1 then 0 else wtC μ t) (ix x3) dy (triS A x1 S) p 5) (eMen A) - smF (fun p => S p 5) (eMen A) := if_pos ⟨z1, z3, z2, z4⟩
    refine bl_X9_tried_1 (by decide) ⟨6, _, by omega, c_lookAll (by omega) h, ?_⟩
    rintro μ1 ⟨hF1, hn1, hw1, hp1, hr1, p8⟩
    have ew : bI (¬ μ1.1 7 (μ1.2.2 0) 16 < (50 : Int32)) = wtC μ t := by rw [hn1.1, ← wtC.cq hF1]; rfl
    rw [ew, hn1.1]
    have at3 : ∀ w : Int32, w = (if x1 = 1 then 0 else wtC μ t) → pt_X9_tried_3 l D d (fun v μ' => v = triF A (wtC μ t) dy S x1 x2 x3 ∧ cqF μ μ' ∧ jk μ') Γ 0 x1 x2 x3 w μ1 := by
      intro w hw
      refine bl_X9_tried_3 (by decide) ?_
      rintro _ e0
      rw [e0]
      have at4 : ∀ μ2, cqF μ μ2 → jk μ2 → (∀ k, μ2.1 4 k = μ1.1 4 k) → (∀ k, μ2.1 331 k = μ1.1 331 k) → μ2.1 8 2 1 = nI dy → μ2.1 8 2 5 = triG x1 x2 → μ2.1 8 2 6 = -1 → pt_X9_tried_4 l D d (fun v μ' => v = triF A (wtC μ t) dy S x1 x2 x3 ∧ cqF μ μ' ∧ jk μ') Γ 0 x1 x3 w μ2 := by
        intro μ2 hF2 hj2 a1 a2 a3 a4 a5
        have at5 : ∀ v : Int32, v = (if x1 = 5 then 1 else 0) → (v = 0 ∨ v = 1) → pt_X9_tried_5 l D d (fun v μ' => v = triF A (wtC μ t) dy S x1 x2 x3 ∧ cqF μ μ' ∧ jk μ') Γ 0 x1 x3 w 2 v μ2 := by
          intro v hv hv2
          refine bl_X9_tried_5 (by decide) (by decide) ⟨hv2, ?_⟩
          rintro μ3 e3 _ rfl
          have hF3 : cqF μ2 μ3 := by rw [e3]; exact cqF.rf.put (by omega)
          have r8 : μ3.1 8 2 = fun j => if j = 7 then v else μ2.1 8 2 j := by rw [e3, gsI_row]
          refine triedC_people (μ0 := μ) (x2 := x2) (S := S) (A := A) hd h ?_ (eMen A) 0 μ3 (by omega) ⟨hF2.tr hF3, hj2.of (fun i => by rw [e3, gsI_off (by omega)]) (fun i => by rw [e3, gsI_off (by omega)]), fun k hk => ?_, fun k hk => ?_, by rw [r8]; exact a3, by rw [r8]; exact a4, by rw [r8]; exact a5, by rw [r8]; exact hv⟩
          · intro μ4 hI4
            have := triedC_days (l := l) (D := D) (d := d) (Γ := Γ) (q := fun v μ' => v = triF A (wtC μ t) dy S x1 x2 x3 ∧ cqF μ μ' ∧ jk μ') (t := t) (n := n) (A := A) (S := S) (dy := dy) (A' := triA A x1 x2) (S' := triS A x1 S) (m := ix x3) (wet := w) (v := triF A (wtC μ t) dy S x1 x2 x3) (μ0 := μ) hd rfl n2 hdy h (by rw [val, hw]) (fun μ' a b => ⟨rfl, a, b⟩) (ix x3) 0 μ4 (by omega) hI4.1 (triI_wC h hI4)
            rw [← n1] at this
            exact this
          · rw [if_neg (by omega), e3, gsI_off (by omega), a1, hr1 k hk, h.row hk]
          · rw [if_neg (by omega), e3, gsI_off (by omega), a2, hp1 k hk]
        refine bl_X9_tried_4 (by decide) ⟨fun h5 => at5 0 (by rw [if_neg h5]) (Or.inl rfl), fun h5 => at5 1 (by rw [if_pos h5]) (Or.inr rfl)⟩
      refine ⟨fun h2 => at4 μ1 hF1 hn1.jk (fun _ => rfl) (fun _ => rfl) hw1.2.2.2.2.2.2 (by rw [triG, if_neg h2]; exact p8.1) p8.2, fun h2 => ?_⟩
      rintro μ2 e2
      have hF2 : cqF μ1 μ2 := by rw [e2]; exact cqF.rf.put (by omega)
      have r8 : μ2.1 8 2 = fun j => if j = 5 then x2 else μ1.1 8 2 j := by rw [e2, gsI_row]
      exact at4 μ2 (hF1.tr hF2) (hn1.jk.of (fun i => by rw [e2, gsI_off (by omega)]) (fun i => by rw [e2, gsI_off (by omega)])) (fun i => by rw [e2, gsI_off (by omega)]) (fun i => by rw [e2, gsI_off (by omega)]) (by rw [r8]; exact hw1.2.2.2.2.2.2) (by rw [r8, triG, if_pos h2]; rfl) (by rw [r8]; exact p8.2)
    have b01 : wtC μ t = 0 ∨ wtC μ t = 1 := bI_01 _
    refine ⟨by omega, h.2.1, fun z => bl_X9_tried_2 (by decide) (at3 0 ?_), fun z => ⟨fun q => bl_X9_tried_2 (by decide) (at3 0 (by rw [if_pos q])), fun q => at3 1 ?_⟩⟩
    · rw [z]; split <;> rfl
    · rw [if_neg q]
      rcases b01 with b | b
      · exact absurd b z
      · exact b.symm
  refine ⟨by omega, fun z => ⟨by rw [triF, if_neg (fun w => z w.1)], cqF.rf, h.jk⟩, fun z1 => ⟨by omega, fun z => ⟨by rw [triF, if_neg (fun w => z w.2.1)], cqF.rf, h.jk⟩, fun z3 => ⟨fun h2 => ⟨fun z => body (Decidable.not_not.mp z1) (Decidable.not_not.mp z3) (fun w => absurd w h2) (fun _ => z), fun z => ⟨by rw [triF, if_neg (fun w => z (w.2.2.2 h2))], cqF.rf, h.jk⟩⟩, fun h2 => ⟨by omega, h.2.1, fun z => ⟨by rw [triF, if_neg (fun w => z (w.2.2.1 h2))], cqF.rf, h.jk⟩, fun z => body (Decidable.not_not.mp z1) (Decidable.not_not.mp z3) (fun _ => Decidable.not_not.mp z) (fun w => absurd h2 w)⟩⟩⟩⟩
end Q6
section Q6M
variable {l : Launch} {D : gD} {d : Nat} {μ : gMem} {n dy : Nat} {A : wEnv} {S : pplS} {x1 x2 x3 : Int32}
theorem i32_b {x : Int32} {a b : Nat} (h : inR x a b) : ∃ k, a ≤ k ∧ k ≤ b ∧ x = nI k := ⟨ix x, by unfold ix; omega, by unfold ix; omega, ix_nI (by omega)⟩
theorem c_X10_tried (hd : 7 ≤ d) (h : nM μ n A S dy) : Ctr l D d yX10_tried cX10_tried 5 (some .int) [.ref (D.2.2 10 0), .int x1, .int x2, .int x3] μ (pI (fun v μ' => v = triF A (wtM μ) dy S x1 x2 x3 ∧ mqF μ μ')) := by
  have h5 := h.men
  have hdy := h.2.2.1
  refine en_X10_tried (fun Γ => bl_X10_tried_0 (by decide) ?_)
  rintro μ1 e1
  have hF0 : mqF μ μ1 := by rw [e1]; exact h.th.1
  have h1 : nM μ1 n A S dy := by rw [e1]; exact h.th.2
  clear e1
  have hA := h.1.2.1
  have no : ∀ xs : Int32, xs = 0 → ¬ ((inR x1 0 5) ∧ (x1 = 2 → isM (eMen A) x2) ∧ (¬ x1 = 2 → x2 = 0)) → pt_X10_tried_2 l D d (fun v μ' => v = triF A (wtM μ) dy S x1 x2 x3 ∧ mqF μ μ') Γ 0 x1 x2 x3 xs μ1 := by
    intro xs hxs hno
    refine bl_X10_tried_2 (by decide) ?_
    rintro _ rfl
    exact ⟨fun _ => ⟨by rw [triF, if_neg (fun w => hno ⟨w.1, w.2.2⟩)], hF0⟩, fun z => absurd hxs z⟩
  have yes : ∀ xs : Int32, ¬ xs = 0 → inR x1 0 5 → (x1 = 2 → isM (eMen A) x2) → (¬ x1 = 2 → x2 = 0) → pt_X10_tried_2 l D d (fun v μ' => v = triF A (wtM μ) dy S x1 x2 x3 ∧ mqF μ μ') Γ 0 x1 x2 x3 xs μ1 := by
    intro xs hxs y1 y2 y4
    refine bl_X10_tried_2 (by decide) ?_
    rintro _ rfl
    rw [lt0, leL (z := 60) (by decide)]
    refine ⟨fun z => absurd z hxs, fun _ => ⟨fun z => ⟨by rw [triF, if_neg (fun w => by have := w.2.1; omega)], hF0⟩, fun z3 => ⟨fun z4 => ?_, fun z => ⟨by rw [triF, if_neg (fun w => by have := w.2.1; omega)], hF0⟩⟩⟩⟩
    have y3 : inR x3 0 60 := by omega
    obtain ⟨n1, n2⟩ := inR_ix (b := 60) y3
    rintro μ2 e2 μ3 e3
    have c51 : μ3.1 10 0 51 = x1 := by rw [e3, gsI_at, if_neg (by omega), e2, gsI_s]
    have c52 : μ3.1 10 0 52 = x2 := by rw [e3, gsI_s]
    have g : ∀ k, ¬ k = 10 → ∀ j, μ3.1 k j = μ1.1 k j := fun k hk j => by rw [e3, gsI_off (by omega), e2, gsI_off (by omega)]
    have gz : ∀ z, ¬ z = 51 → ¬ z = 52 → μ3.1 10 0 z = μ1.1 10 0 z := fun z ha hb => by rw [e3, gsI_at, if_neg (by omega), e2, gsI_at, if_neg (by omega)]
    have g10 : ∀ j, ¬ j = 0 → μ3.1 10 j = μ1.1 10 j := fun j hj => by rw [e3, gsI_off (by omega), e2, gsI_off (by omega)]
    have g2 : μ3.2 = μ1.2 := by rw [e3, e2]; rfl
    have b51 := h1.2.2.2.1
    have hgn : gnM μ3 = triG x1 x2 := by unfold gnM triG; rw [c51, c52]
    have hw3 : wM μ3 n 0 (triA A x1 x2) 0 (triS A x1 S) dy := by
      obtain ⟨hT, hA, ⟨hg, hpl, hon⟩, hps, hr, hS, hdy1⟩ := h1.1
      refine ⟨hT.of (g _ (by omega) 0) (g _ (by omega) 0) (g _ (by omega) 0) (g _ (by omega) 0) (g _ (by omega) 0) (g _ (by omega) 0), triA_ok hA, ⟨hgn, ?_, fun p hp => ?_⟩, fun p hp => ?_, fun k hk => ?_, triS_ok hS, ?_⟩
      · unfold plM; rw [c51]; rfl
      · show (decide (¬ nI p = triG x1 x2) = true) ↔ (¬ nI p = triG x1 x2)
        rw [decide_eq_true_eq]
      · have hp2 : p < eMen A := hp
        have o := hps p hp2
        unfold prM at o ⊢
        rw [if_neg (by rw [b51]; decide), if_neg (by rw [b51]; decide)] at o
        rw [c51, g 713 (by omega) 0, g 714 (by omega) 0, g 751 (by omega) 0]
        show _ = (if x1 = 4 then fun _ => 0 else A.2.2.2.1.1) p ∧ _ = (if x1 = 4 then fun _ => 0 else A.2.2.2.1.2.1) p
        by_cases h4 : x1 = 4
        · rw [if_pos h4, if_pos h4, if_pos h4, if_pos h4]
          exact ⟨rfl, rfl⟩
        · rw [if_neg h4, if_neg h4, if_neg h4, if_neg h4]
          exact o
      · have hk2 : k < eMen A := hk
        have o := hr k hk2
        refine ⟨?_, by rw [g 747 (by omega) 0]; exact o.2⟩
        funext z
        have oz := congrFun o.1 z
        unfold peM at oz ⊢
        have hPM : PM μ3 (5 * 0 + k) = PM μ1 (5 * 0 + k) := PM_cong (fun q h1 h2 => by rw [g q (by omega) 0])
        show _ = if k < eMen A ∧ z = 10 ∧ x1 = 3 then (1 : Int32) else S k z
        by_cases hz : z = 10
        · rw [if_pos hz] at oz ⊢
          unfold bnM at oz ⊢
          rw [if_neg (by rw [b51]; decide)] at oz
          rw [c51, g 747 (by omega) 0]
          by_cases h3 : x1 = 3
          · rw [if_pos h3, if_pos ⟨hk2, hz, h3⟩]
          · rw [if_neg h3, if_neg (fun w => h3 w.2.2)]
            exact oz
        · rw [if_neg hz] at oz ⊢
          rw [hPM, if_neg (fun w => hz w.2.1)]
          exact oz
      · rw [g 737 (by omega) 0]; exact hdy1
    have ew : wtM μ3 = (if x1 = 1 then 0 else wtM μ) := by
      rw [← wtM.mq hF0]
      unfold wtM odM
      rw [c51, b51, g 707 (by omega) 0, if_neg (show ¬ (0 : Int32) = 1 by decide)]
      by_cases hx : x1 = 1
      · rw [if_pos hx, if_pos hx]; rfl
      · rw [if_neg hx, if_neg hx]
    refine ⟨6, _, by omega, c_X10_runs n1 (by omega) hw3 (by omega) (by omega) (by omega), ?_⟩
    rintro μ4 ⟨hF4, hw4⟩ μ5 e5 μ6 e6
    rw [ew] at hw4
    have f6 : ∀ k, ¬ k = 10 → ∀ j, μ6.1 k j = μ4.1 k j := fun k hk j => by rw [e6, gsI_off (by omega), e5, gsI_off (by omega)]
    have hF6 : mqF μ1 μ6 := by
      refine ⟨fun k j a b => ?_, fun k a b z c => ?_, fun k a b z c => ?_, fun z a => ?_, fun j a b c => ?_, ?_, fun k j a b => ?_⟩
      · by_cases hk : k = 10
        · subst hk
          rw [e6, gsI_off (by omega), e5, gsI_off (by omega), hF4.1 10 j a b, g10 j (by omega)]
        · rw [f6 k hk, hF4.1 k j a b, g k hk]
      · rw [f6 k (by omega), hF4.2.1 k a b z c, g k (by omega)]
      · rw [f6 k (by omega), hF4.2.2.1 k a b z c, g k (by omega)]
      · rw [f6 751 (by omega), hF4.2.2.2.1 z a, g 751 (by omega)]
      · by_cases h51 : j = 51
        · subst h51
          rw [e6, gsI_at, if_neg (by omega), e5, gsI_s]; exact b51.symm
        · by_cases h52 : j = 52
          · subst h52
            rw [e6, gsI_s]; exact h1.2.2.2.2.symm
          · rw [e6, gsI_at, if_neg (by omega), e5, gsI_at, if_neg (by omega), hF4.2.2.2.2.1 j a b c, gz j h51 h52]
      · rw [e6, e5]; show μ4.2.2 = _; rw [hF4.2.2.2.2.2.1, g2]
      · rw [e6, e5]; show μ4.2.1 k j = _; rw [hF4.2.2.2.2.2.2 k j a b, g2]
    have hn6 := h1.mq hF6
    refine ⟨0, _, by omega, c_X10_sumOf (k1 := 745) (w := 1) (men := eMen A) rfl rfl (by decide) (by decide) h5 hn6.1.1.1, ?_⟩
    rintro v1 μ7 ⟨rfl, rfl⟩
    refine ⟨0, _, by omega, c_X10_sumOf (k1 := 745) (w := 0) (men := eMen A) rfl rfl (by decide) (by decide) h5 hn6.1.1.1, ?_⟩
    rintro v2 μ8 ⟨rfl, rfl⟩
    refine ⟨?_, hF0.tr hF6⟩
    rw [triF, if_pos ⟨y1, y3, y2, y4⟩]
    have s1 : smF (fun k => μ8.1 745 0 (5 * 1 + k)) (eMen A) = smF (fun p => runF (triA A x1 x2) (if x1 = 1 then 0 else wtM μ) (ix x3) dy (triS A x1 S) p 5) (eMen A) := smF_cong _ (fun k hk => by
      have a1 : μ4.1 745 0 (5 + k) = _ := hw4.at (A := triA A x1 x2) hk (j := 5) (by omega)
      rw [f6 745 (by omega)]
      exact a1)
    have s2 : smF (fun k => μ8.1 745 0 (5 * 0 + k)) (eMen A) = smF (fun p => S p 5) (eMen A) := smF_cong _ (fun k hk => by
      have a1 : μ8.1 745 0 k = _ := hn6.row hk (j := 5) (by omega)
      rw [Nat.mul_zero, Nat.zero_add]
      exact a1)
    rw [s1, s2]
  rw [lt0, gtL (z := 5) (by decide)]
  refine ⟨fun h2 => ⟨fun z => bl_X10_tried_1 (by decide) (no 0 rfl (fun w => by have := w.1; omega)), fun z1 => ⟨fun z => bl_X10_tried_1 (by decide) (no 0 rfl (fun w => by have := w.1; omega)), fun z2 => ⟨fun z => bl_X10_tried_1 (by decide) (no 0 rfl (fun w => z (w.2.2 h2))), fun z => yes 1 (by decide) (by omega) (fun w => absurd w h2) (fun _ => z)⟩⟩⟩, fun h2 => ⟨by omega, ?_⟩⟩
  have r2 : inR x1 0 5 := by rw [h2]; decide
  by_cases hi : isn x2 (μ1.1 707 0 0) = 0
  · exact no _ hi (fun w => (h1.isn.mp hi) (w.2.1 h2))
  · exact yes _ hi r2 (fun _ => Decidable.not_not.mp (fun w => hi (h1.isn.mpr w))) (fun w => absurd h2 w)
end Q6M
