/-! LINES: small readers, as pure functions and of the class -/
abbrev rsL (α : Type) : Type := (Int32 × Nat) ⊕ (α × Nat)
/-- a number from lo to hi stands at p -/
noncomputable def nuR (lg : Nat → Int32) (tb : Nat → Nat) (L : Nat) (lo hi : Int) (p : Nat) : rsL Int32 := if tkK lg tb L p = 34 then (if inR (tkV lg tb L p) lo hi then .inr (tkV lg tb L p, nxP lg tb L p) else .inl (2, p)) else .inl (1, p)
/-- a new name stands at p -/
noncomputable def nwR (lg : Nat → Int32) (tb : Nat → Nat) (L : Nat) (f : Nat → Int32) (m p : Nat) : rsL Int32 := if tkK lg tb L p = 35 then (if fndL f (tkV lg tb L p) m 0 = -1 then .inr (tkV lg tb L p, nxP lg tb L p) else .inl (3, p)) else .inl (1, p)
/-- a name that was told stands at p -/
noncomputable def tnR (lg : Nat → Int32) (tb : Nat → Nat) (L : Nat) (f : Nat → Int32) (m p : Nat) : rsL Int32 := if tkK lg tb L p = 35 then (if fndL f (tkV lg tb L p) m 0 = -1 then .inl (4, p) else .inr (fndL f (tkV lg tb L p) m 0, p)) else .inl (1, p)
/-- what a reader of the class leaves -/
def rsC {α : Type} (lg : Nat → Int32) (tb : Nat → Nat) (L : Nat) (R : rsL α) (M : α → gMem → Prop) (v : Int32) (μ' : gMem) : Prop := match R with | .inl (k, q) => v = 0 ∧ μ'.1 5 0 5 = k ∧ μ'.1 5 0 6 = nI q | .inr (a, q) => v = 1 ∧ q ≤ L ∧ atC lg tb L q μ' ∧ M a μ'
def rnF (μ μ' : gMem) : Prop := (∀ k j, ¬ (j = 0 ∧ (k = 5 ∨ k = 6)) → μ'.1 k j = μ.1 k j) ∧ (∀ j, ¬ (4 ≤ j ∧ j ≤ 7) → μ'.1 6 0 j = μ.1 6 0 j) ∧ μ'.2 = μ.2
theorem rnF.rf {μ : gMem} : rnF μ μ := ⟨fun _ _ _ => rfl, fun _ _ => rfl, rfl⟩
theorem rnF.tr {μ μ1 μ2 : gMem} (h : rnF μ μ1) (h2 : rnF μ1 μ2) : rnF μ μ2 := ⟨fun k j a => (h2.1 k j a).trans (h.1 k j a), fun j a => (h2.2.1 j a).trans (h.2.1 j a), h2.2.2.trans h.2.2⟩
theorem nkF.n {μ μ' : gMem} (h : nkF μ μ') : rnF μ μ' := ⟨fun k j a => h.1 k j (by omega), h.2.1, h.2.2⟩
theorem rnF.p5 {μ μ1 : gMem} {j : Nat} {v : Int32} (h : rnF μ μ1) : rnF μ (gsI μ1 5 0 j v) := h.tr ⟨fun k j a => gsI_off (by omega), fun a _ => by rw [gsI_off (by omega)], rfl⟩
section LC
variable {l : Launch} {D : gD} {d : Nat} {μ : gMem} {lg : Nat → Int32} {tb : Nat → Nat} {L p : Nat}
theorem c_X5_fail {x : Int32} (ha : atC lg tb L p μ) : Ctr l D d yX5_fail cX5_fail 2 (some .boolean) [.ref (D.2.2 5 0), .int x] μ (pI (fun v μ' => v = 0 ∧ rnF μ μ' ∧ μ'.1 5 0 5 = x ∧ μ'.1 5 0 6 = nI p)) := by
  refine en_X5_fail (fun Γ => bl_X5_fail_0 (by decide) ?_)
  rintro μ1 e1 μ2 e2
  have g : μ1.1 6 0 6 = nI p := by rw [e1, gsI_off (by omega)]; exact ha.2.2.1
  rw [g] at e2
  exact ⟨rfl, by rw [e2, e1]; exact rnF.rf.p5.p5, by rw [e2, gsI_at, if_neg (by omega), e1, gsI_s], by rw [e2, gsI_s]⟩
theorem c_X5_readNumber {x1 x2 : Int32} {lo hi : Int} (hd : 3 ≤ d) (h1 : x1.toInt = lo) (h2 : x2.toInt = hi) (hT : tkC lg tb L μ) (hp : p ≤ L) (ha : atC lg tb L p μ) : Ctr l D d yX5_readNumber cX5_readNumber 3 (some .boolean) [.ref (D.2.2 5 0), .int x1, .int x2] μ (pI (fun v μ' => rnF μ μ' ∧ rsC lg tb L (nuR lg tb L lo hi p) (fun a μ' => μ'.1 5 0 4 = a ∧ ∀ j, ¬ j = 4 → μ'.1 5 0 j = μ.1 5 0 j) v μ')) := by
  have e5 : μ.1 6 0 5 = tkK lg tb L p := ha.2.1
  have e7 : μ.1 6 0 7 = tkV lg tb L p := ha.2.2.2
  refine en_X5_readNumber (fun Γ => bl_X5_readNumber_0 (by decide) ?_)
  rw [e5, e7, iw_lit h1 h2]
  unfold nuR
  refine ⟨fun z => ⟨by omega, fun w => ?_, fun w => ⟨0, _, by omega, c_X5_fail ha, ?_⟩⟩, fun z => ⟨0, _, by omega, c_X5_fail ha, ?_⟩⟩
  · rw [if_pos z, if_pos (Decidable.not_not.mp w)]
    rintro μ7 e
    have F7 : rnF μ μ7 := by rw [e]; exact rnF.rf.p5
    have o7 : ∀ k j, ¬ (k = 5 ∧ j = 0) → μ7.1 k j = μ.1 k j := fun k j hk => by rw [e, gsI_off (by omega)]
    have s7 : μ7.1 5 0 4 = tkV lg tb L p := by rw [e, gsI_s]
    refine ⟨2, _, by omega, c_next (lg := lg) (tb := tb) (L := L) (p := p) (by omega) ?_ hp ?_, ?_⟩
    · unfold tkC
      rw [o7 6 0 (by omega), o7 448 0 (by omega), o7 449 0 (by omega)]
      exact hT
    · unfold atC
      rw [o7 6 0 (by omega)]
      exact ha
    · rintro μ12 ⟨N, a⟩
      exact ⟨F7.tr N.n, rfl, nxP_le hp, a, by show μ12.1 5 0 4 = _; rw [N.1 5 0 (by omega)]; exact s7, fun j hj => by rw [N.1 5 0 (by omega), e, gsI_at, if_neg (by omega)]⟩
  · rw [if_pos z, if_neg w]
    rintro v μ1 ⟨ev, F, a, b⟩
    rw [ev]
    exact ⟨Or.inl rfl, F, rfl, a, b⟩
  · rw [if_neg z]
    rintro v μ1 ⟨ev, F, a, b⟩
    rw [ev]
    exact ⟨Or.inl rfl, F, rfl, a, b⟩
theorem c_X5_readLineEnd (hd : 3 ≤ d) (hT : tkC lg tb L μ) (hp : p ≤ L) (ha : atC lg tb L p μ) : Ctr l D d yX5_readLineEnd cX5_readLineEnd 1 (some .boolean) [.ref (D.2.2 5 0)] μ (pI (fun v μ' => rnF μ μ' ∧ rsC lg tb L (if tkK lg tb L p = 33 then (.inr ((), nxP lg tb L p) : rsL Unit) else .inl (1, p)) (fun _ μ' => μ'.1 5 = μ.1 5) v μ')) := by
  have e5 : μ.1 6 0 5 = tkK lg tb L p := ha.2.1
  refine en_X5_readLineEnd (fun Γ => bl_X5_readLineEnd_0 (by decide) ?_)
  rw [e5]
  refine ⟨fun z => ⟨2, _, by omega, c_next (by omega) hT hp ha, ?_⟩, fun z => ⟨0, _, by omega, c_X5_fail ha, ?_⟩⟩
  · rw [if_pos z]
    rintro μ12 ⟨N, a⟩
    exact ⟨N.n, rfl, nxP_le hp, a, by funext j; rw [N.1 5 j (by omega)]⟩
  · rw [if_neg z]
    rintro v μ1 ⟨ev, F, a, b⟩
    rw [ev]
    exact ⟨Or.inl rfl, F, rfl, a, b⟩
theorem c_X5_findName {k1 i1 m Ln : Nat} {x2 : Int32} (hd : 1 ≤ d) (hx : x2 = nI m) (hk1 : gsh k1 = (1, (gsh k1).2.1, 0)) (hi1 : i1 < gkn k1) (hLn : (gsh k1).2.1 = Ln) (hL2 : Ln < 2 ^ 31) (hm : m ≤ Ln) (hp : p ≤ L) (ha : atC lg tb L p μ) : Ctr l D d yX5_findName cX5_findName 4 (some .int) [.ref (D.2.2 5 0), .ref (D.2.2 k1 i1), .int x2] μ (pI (fun v μ' => rnF μ μ' ∧ μ'.1 6 = μ.1 6 ∧ match tnR lg tb L (μ.1 k1 i1) m p with | .inl (k, q) => v = -1 ∧ μ'.1 5 0 5 = k ∧ μ'.1 5 0 6 = nI q | .inr (a, _) => v = a ∧ ¬ a = -1 ∧ μ'.1 5 = μ.1 5)) := by
  have e5 : μ.1 6 0 5 = tkK lg tb L p := ha.2.1
  have e7 : μ.1 6 0 7 = tkV lg tb L p := ha.2.2.2
  have fl : ∀ x : Int32, Ctr l D 0 yX5_fail cX5_fail 2 (some .boolean) [.ref (D.2.2 5 0), .int x] μ (pI (fun v μ' => v = 0 ∧ (rnF μ μ' ∧ μ'.1 6 = μ.1 6) ∧ μ'.1 5 0 5 = x ∧ μ'.1 5 0 6 = nI p)) := by
    intro x
    refine en_X5_fail (fun Γ => bl_X5_fail_0 (by decide) ?_)
    rintro μ1 e1 μ2 e2
    have g : μ1.1 6 0 6 = nI p := by rw [e1, gsI_off (by omega)]; exact ha.2.2.1
    rw [g] at e2
    exact ⟨rfl, ⟨by rw [e2, e1]; exact rnF.rf.p5.p5, by funext j; rw [e2, gsI_off (by omega), e1, gsI_off (by omega)]⟩, by rw [e2, gsI_at, if_neg (by omega), e1, gsI_s], by rw [e2, gsI_s]⟩
  refine en_X5_findName (fun Γ => bl_X5_findName_0 (by decide) hk1 hi1 ?_)
  rw [e5, e7]
  unfold tnR
  refine ⟨fun z => ⟨0, _, by omega, c_X9_placeOf hx hk1 hi1 hLn hL2 hm, ?_⟩, fun z => ⟨0, _, by omega, fl 1, ?_⟩⟩
  · rw [if_pos z]
    rintro v μ6 ⟨ev, em⟩ x3 ex
    rw [em, ex, ev]
    refine ⟨fun w => ?_, fun w => ⟨0, _, by omega, fl 4, ?_⟩⟩
    · rw [if_neg w]
      exact ⟨rnF.rf, rfl, rfl, w, rfl⟩
    · rw [if_pos w]
      rintro v2 μ1 ⟨-, F, a, b⟩
      exact ⟨F.1, F.2, w, a, b⟩
  · rw [if_neg z]
    rintro v μ1 ⟨-, F, a, b⟩
    exact ⟨F.1, F.2, rfl, a, b⟩
theorem c_X5_readNewName {k1 i1 m Ln : Nat} {x2 : Int32} (hd : 3 ≤ d) (hx : x2 = nI m) (hk1 : gsh k1 = (1, (gsh k1).2.1, 0)) (hi1 : i1 < gkn k1) (hLn : (gsh k1).2.1 = Ln) (hL2 : Ln < 2 ^ 31) (hm : m < Ln) (hk5 : ¬ k1 = 5 ∧ ¬ k1 = 6 ∧ ¬ k1 = 448 ∧ ¬ k1 = 449) (hT : tkC lg tb L μ) (hp : p ≤ L) (ha : atC lg tb L p μ) : Ctr l D d yX5_readNewName cX5_readNewName 3 (some .boolean) [.ref (D.2.2 5 0), .ref (D.2.2 k1 i1), .int x2] μ (pI (fun v μ' => (∃ μ1, (μ1 = μ ∨ μ1 = gsI μ k1 i1 m (tkV lg tb L p)) ∧ rnF μ1 μ') ∧ rsC lg tb L (nwR lg tb L (μ.1 k1 i1) m p) (fun a μ' => μ'.1 k1 i1 m = a ∧ μ'.1 5 = μ.1 5) v μ')) := by
  have e5 : μ.1 6 0 5 = tkK lg tb L p := ha.2.1
  have e7 : μ.1 6 0 7 = tkV lg tb L p := ha.2.2.2
  refine en_X5_readNewName (fun Γ => bl_X5_readNewName_0 (by decide) hk1 hi1 ?_)
  rw [e5, e7]
  unfold nwR
  refine ⟨fun z => ⟨0, _, by omega, c_X9_placeOf hx hk1 hi1 hLn hL2 (by omega), ?_⟩, fun z => ⟨0, _, by omega, c_X5_fail ha, ?_⟩⟩
  · rw [if_pos z]
    rintro v μ6 ⟨ev, em⟩
    rw [em, ev]
    refine ⟨fun w => ⟨fun w2 => ?_, fun w2 => ⟨m, by omega, by omega, hx, ?_⟩⟩, fun w => ⟨0, _, by omega, c_X5_fail ha, ?_⟩⟩
    · rw [hLn, hx, nI_leI (by omega) (by omega)] at w2
      omega
    · rw [if_pos w, e7]
      rintro μ12 e
      have o7 : ∀ k j, ¬ (k = k1 ∧ j = i1) → μ12.1 k j = μ.1 k j := fun k j hk => by rw [e, gsI_off hk]
      have s7 : μ12.1 k1 i1 m = tkV lg tb L p := by rw [e, gsI_s]
      refine bl_X5_readNewName_1 (by decide) ⟨2, _, by omega, c_next (lg := lg) (tb := tb) (L := L) (p := p) (by omega) ?_ hp ?_, ?_⟩
      · unfold tkC
        rw [o7 6 0 (by omega), o7 448 0 (by omega), o7 449 0 (by omega)]
        exact hT
      · unfold atC
        rw [o7 6 0 (by omega)]
        exact ha
      · rintro μ13 ⟨N, a⟩
        exact ⟨⟨μ12, Or.inr e, N.n⟩, rfl, nxP_le hp, a, by show μ13.1 k1 i1 m = _; rw [N.1 k1 i1 (by omega)]; exact s7, by funext z; rw [N.1 5 z (by omega), o7 5 z (by omega)]⟩
    · rw [if_neg w]
      rintro v μ1 ⟨ev, F, a, b⟩
      rw [ev]
      exact ⟨Or.inl rfl, ⟨μ, Or.inl rfl, F⟩, rfl, a, b⟩
  · rw [if_neg z]
    rintro v μ1 ⟨ev, F, a, b⟩
    rw [ev]
    exact ⟨Or.inl rfl, ⟨μ, Or.inl rfl, F⟩, rfl, a, b⟩
theorem c_X5_readOnce {j : Nat} {sd : Nat → Bool} (hd : 3 ≤ d) (hj : j < 4) (hk : tkK lg tb L p = nI (3 + j)) (hs : μ.1 386 0 j = bB (sd j)) (hT : tkC lg tb L μ) (hp : p ≤ L) (ha : atC lg tb L p μ) : Ctr l D d yX5_readOnce cX5_readOnce 2 (some .boolean) [.ref (D.2.2 5 0)] μ (pI (fun v μ' => (∃ μ1, (μ1 = μ ∨ μ1 = gsI μ 386 0 j 1) ∧ rnF μ1 μ') ∧ rsC lg tb L (if sd j = true then .inl (3, p) else (.inr ((), nxP lg tb L p) : rsL Unit)) (fun _ μ' => μ'.1 386 0 j = 1 ∧ μ'.1 5 = μ.1 5) v μ')) := by
  have e5 : μ.1 6 0 5 = tkK lg tb L p := ha.2.1
  refine en_X5_readOnce (fun Γ => bl_X5_readOnce_0 (by decide) ?_)
  have e3 : μ.1 6 0 5 - (3 : Int32) = nI j := by rw [e5, hk, show (3 : Int32) = nI 3 from rfl, pk_sub (by omega), show 3 + j - 3 = j by omega]
  have i4 : ¬ iw (nI j) (0 : Int32) (nI 4 - (1 : Int32)) = 0 := by
    have : ∀ j, j < 4 → ¬ iw (nI j) (0 : Int32) (nI 4 - (1 : Int32)) = 0 := by decide
    exact this j hj
  rw [e3]
  rintro x1 rfl
  refine ⟨by omega, fun _ => ⟨j, hj, rfl, ?_⟩, fun z => absurd z i4⟩
  rw [hs, bB_0, nar1]
  refine ⟨fun z => ⟨j, hj, rfl, ?_⟩, fun z => ⟨0, _, by omega, c_X5_fail ha, ?_⟩⟩
  · rw [if_neg (by rw [z]; decide)]
    rintro μ12 e
    have o7 : ∀ k j, ¬ k = 386 → μ12.1 k j = μ.1 k j := fun k j hk => by rw [e, gsI_off (by omega)]
    have s7 : μ12.1 386 0 j = 1 := by rw [e, gsI_s]
    refine ⟨2, _, by omega, c_next (lg := lg) (tb := tb) (L := L) (p := p) (by omega) ?_ hp ?_, ?_⟩
    · unfold tkC
      rw [o7 6 0 (by omega), o7 448 0 (by omega), o7 449 0 (by omega)]
      exact hT
    · unfold atC
      rw [o7 6 0 (by omega)]
      exact ha
    · rintro μ13 ⟨N, a⟩
      exact ⟨⟨μ12, Or.inr e, N.n⟩, rfl, nxP_le hp, a, by show μ13.1 386 0 j = 1; rw [N.1 386 0 (by omega)]; exact s7, by funext z; rw [N.1 5 z (by omega), o7 5 z (by omega)]⟩
  · rw [if_pos (by cases h : sd j; exact absurd h z; rfl)]
    rintro v μ1 ⟨ev, F, a, b⟩
    rw [ev]
    exact ⟨Or.inl rfl, ⟨μ, Or.inl rfl, F⟩, rfl, a, b⟩
end LC
