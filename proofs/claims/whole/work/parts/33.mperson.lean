/-! the reference's day of a person -/
def mkk (j : Nat) : Nat := if j = 7 then 749 else if j = 8 then 750 else if j = 9 then 748 else if j = 10 then 747 else 740 + j
/-- person i of the reference's arrays, by the class's slots -/
def PM (μ : gMem) (i : Nat) : Nat → Int32 := fun j => if j ≤ 10 then μ.1 (mkk j) 0 i else 0
theorem mkk_inj : ∀ j, j < 11 → ∀ j', j' < 11 → mkk j = mkk j' → j = j' := by decide
theorem mkk_rng : ∀ j, j < 11 → 740 ≤ mkk j ∧ mkk j ≤ 750 := by decide
theorem PM_put {μ : gMem} {i : Nat} {v : Int32} (j0 : Nat) (h : j0 < 11) : PM (gsI μ (mkk j0) 0 i v) i = fun j => if j = j0 then v else PM μ i j := by
  funext j
  unfold PM
  by_cases hj : j ≤ 10
  · rw [if_pos hj, if_pos hj]
    by_cases e : j = j0
    · subst e
      rw [if_pos rfl, gsI_s]
    · rw [if_neg e, gsI_off (fun z => e (mkk_inj j (by omega) j0 h z.1))]
  · rw [if_neg hj, if_neg hj, if_neg (by omega)]
theorem ix5 (w p : Nat) : (5 : Int32) * nI w + nI p = nI (5 * w + p) := by
  have e : (5 : Int32) = nI 5 := rfl
  rw [e, pk_mul, nI_add]
theorem ix30 (w p k : Nat) : (30 : Int32) * nI w + (6 : Int32) * nI p + nI k = nI (30 * w + 6 * p + k) := by
  have e : (30 : Int32) = nI 30 := rfl
  have e6 : (6 : Int32) = nI 6 := rfl
  rw [e, e6, pk_mul, pk_mul, nI_add, nI_add]
def LawM (μ : gMem) (c : Nat → Int32 × Int32) (fr to : Nat → Nat) : Prop := ∀ r, r < 3 → μ.1 717 0 r = nI (fr r) ∧ μ.1 718 0 r = nI (to r) ∧ ∀ i, fr r ≤ i → i < to r → c i = (μ.1 719 0 i, μ.1 720 0 i)
theorem LawM.of {μ μ' : gMem} {c : Nat → Int32 × Int32} {fr to : Nat → Nat} (h : LawM μ c fr to) (h1 : μ'.1 717 0 = μ.1 717 0) (h2 : μ'.1 718 0 = μ.1 718 0) (h3 : μ'.1 719 0 = μ.1 719 0) (h4 : μ'.1 720 0 = μ.1 720 0) : LawM μ' c fr to := by
  unfold LawM
  rw [h1, h2, h3, h4]
  exact h
/-- who isn't there -/
def gnM (μ : gMem) : Int32 := if μ.1 10 0 51 = 2 then μ.1 10 0 52 else -1
theorem nI_nm1 {k : Nat} (h : k < 2 ^ 31) : ¬ nI k = -1 := by
  intro e
  have h1 := nI_toInt h
  rw [e] at h1
  have h2 : (-1 : Int32).toInt = -1 := by decide
  omega
theorem isThere_iff {μ : gMem} {k : Nat} (h : k < 2 ^ 31) : (bI (¬ (μ.1 10 0 51 = (2 : Int32) ∧ nI k = μ.1 10 0 52)) = 0) ↔ nI k = gnM μ := by
  unfold gnM
  by_cases h1 : μ.1 10 0 51 = 2
  · rw [if_pos h1]
    by_cases h2 : nI k = μ.1 10 0 52 <;> simp [bI, h1, h2]
  · rw [if_neg h1]
    simp [bI, h1, nI_nm1 h]
section MP
variable {l : Launch} {D : gD} {d : Nat} {μ : gMem} {c : Nat → Int32 × Int32} {fr to : Nat → Nat}
theorem deedSteps_loop {Γ : gC} {q : Int32 → gMem → Prop} {w p k3 n : Nat} (hw : w < 23) (hp : p < 5) (hk3 : gsh k3 = (1, (gsh k3).2.1, 0)) (hi3 : 0 < gkn k3) (hn : μ.1 707 0 1 = nI n) (hn6 : n ≤ 6) (h1 : n ≤ (gsh k3).2.1) (b1 : (gsh k3).2.1 < 2 ^ 31) (h4 : ¬ μ.1 10 0 51 = 4) (hq : q (psum (μ.1 k3 0) (fun k => μ.1 751 0 (30 * w + 6 * p + k)) n) μ) :
    ∀ m j : Nat, j + m = n → pt_X10_deedSteps_1 l D d q Γ 0 (nI w) (nI p) k3 0 (psum (μ.1 k3 0) (fun k => μ.1 751 0 (30 * w + 6 * p + k)) j) (nI j) μ := by
  intro m
  induction m with
  | zero =>
    intro j hj
    obtain rfl : j = n := by omega
    refine bl_X10_deedSteps_1 (by decide) hk3 hi3 ⟨fun _ => hq, fun h => ?_⟩
    rw [hn] at h
    exact absurd (nI_le (Nat.le_refl _) (by omega)) h
  | succ m ih =>
    intro j hj
    refine bl_X10_deedSteps_1 (by decide) hk3 hi3 ⟨fun h => ?_, fun _ => ⟨fun z => absurd z h4, fun _ => ⟨30 * w + 6 * p + j, by omega, ix30 w p j, j, by omega, b1, rfl, ?_⟩⟩⟩
    · rw [hn] at h
      exact absurd h (nI_ge (by omega) (by omega))
    · rintro _ rfl _ rfl
      rw [nI_1, Int32.mul_comm]
      exact ih (j + 1) (by omega)
/-- what a person does by plans; nothing where deeds are left out -/
theorem c_X10_deedSteps {w p k3 n : Nat} (hw : w < 23) (hp : p < 5) (hk3 : gsh k3 = (1, (gsh k3).2.1, 0)) (hi3 : 0 < gkn k3) (hn : μ.1 707 0 1 = nI n) (hn6 : n ≤ 6) (h1 : n ≤ (gsh k3).2.1) (b1 : (gsh k3).2.1 < 2 ^ 31) :
    Ctr l D d yX10_deedSteps cX10_deedSteps 6 (some .int) [.ref (D.2.2 10 0), .int (nI w), .int (nI p), .ref (D.2.2 k3 0)] μ (pI (fun v μ' => v = (if μ.1 10 0 51 = 4 then 0 else psum (μ.1 k3 0) (fun k => μ.1 751 0 (30 * w + 6 * p + k)) n) ∧ μ' = μ)) := by
  refine en_X10_deedSteps (fun Γ => bl_X10_deedSteps_0 (by decide) hk3 hi3 ?_)
  rintro _ rfl _ rfl
  by_cases h4 : μ.1 10 0 51 = 4
  · rw [if_pos h4]
    exact bl_X10_deedSteps_1 (by decide) hk3 hi3 ⟨fun _ => ⟨rfl, rfl⟩, fun _ => ⟨fun _ => ⟨rfl, rfl⟩, fun z => absurd h4 z⟩⟩
  · rw [if_neg h4]
    exact deedSteps_loop hw hp hk3 hi3 hn hn6 h1 b1 h4 ⟨rfl, rfl⟩ n 0 (by omega)
theorem greatestM_loop {Γ : gC} {q : Int32 → gMem → Prop} {w men : Nat} (hd : 0 < d) (hw : w < 23) (hm : μ.1 707 0 0 = nI men) (hm5 : men ≤ 5) (hq : q (mxF (fun k => μ.1 744 0 (5 * w + k)) (gnM μ) men 0 0) μ) :
    ∀ (m j : Nat) (a : Int32), j + m = men → mxF (fun k => μ.1 744 0 (5 * w + k)) (gnM μ) m j a = mxF (fun k => μ.1 744 0 (5 * w + k)) (gnM μ) men 0 0 → pt_X10_greatest_1 l D d q Γ 0 (nI w) a (nI j) μ := by
  intro m
  induction m with
  | zero =>
    intro j a hj ha
    refine bl_X10_greatest_1 (by decide) ⟨fun _ => ?_, fun h => ?_⟩
    · rw [show a = mxF (fun k => μ.1 744 0 (5 * w + k)) (gnM μ) men 0 0 from ha]
      exact hq
    · rw [hm, show j = men by omega] at h
      exact absurd (nI_le (Nat.le_refl _) (by omega)) h
  | succ m ih =>
    intro j a hj ha
    refine bl_X10_greatest_1 (by decide) ⟨fun h => ?_, fun _ => ⟨hd, fun hg => ?_, fun hg => ⟨5 * w + j, by omega, ix5 w j, hd, ?_⟩⟩⟩
    · rw [hm] at h
      exact absurd h (nI_ge (by omega) (by omega))
    · rw [isThere_iff (by omega)] at hg
      refine bl_X10_greatest_2 (by decide) ?_
      rintro _ rfl
      rw [nI_1]
      refine ih (j + 1) a (by omega) ?_
      simp only [mxF, if_pos hg] at ha
      exact ha
    · rw [isThere_iff (by omega)] at hg
      rintro _ rfl
      refine bl_X10_greatest_2 (by decide) ?_
      rintro _ rfl
      rw [nI_1]
      refine ih (j + 1) _ (by omega) ?_
      simp only [mxF, if_neg hg] at ha
      exact ha
theorem c_X10_greatest {w men : Nat} (hd : 1 ≤ d) (hw : w < 23) (hm : μ.1 707 0 0 = nI men) (hm5 : men ≤ 5) : Ctr l D d yX10_greatest cX10_greatest 4 (some .int) [.ref (D.2.2 10 0), .int (nI w)] μ (pI (fun v μ' => v = mxF (fun k => μ.1 744 0 (5 * w + k)) (gnM μ) men 0 0 ∧ μ' = μ)) := by
  refine en_X10_greatest (fun Γ => bl_X10_greatest_0 (by decide) ?_)
  rintro _ rfl _ rfl
  exact greatestM_loop (by omega) hw hm hm5 ⟨rfl, rfl⟩ men 0 0 (by omega) rfl
/-- what a law of the reference changes: its long rows, how many are worked -/
def mlFr (μ μ' : gMem) : Prop := (∀ k i, ¬ (k = 10 ∧ i = 0) → μ'.1 k i = μ.1 k i) ∧ (∀ j, ¬ j = 32 → μ'.1 10 0 j = μ.1 10 0 j) ∧ μ'.2.2 = μ.2.2 ∧ ∀ k i, ¬ (k = 734 ∧ i = 0) → ¬ (k = 735 ∧ i = 0) → μ'.2.1 k i = μ.2.1 k i
theorem mlFr.rf {μ : gMem} : mlFr μ μ := ⟨fun _ _ _ => rfl, fun _ _ => rfl, rfl, fun _ _ _ _ => rfl⟩
theorem mlFr.tr {μ μ1 μ2 : gMem} (h : mlFr μ μ1) (h2 : mlFr μ1 μ2) : mlFr μ μ2 := ⟨fun k i a => (h2.1 k i a).trans (h.1 k i a), fun j a => (h2.2.1 j a).trans (h.2.1 j a), h2.2.2.1.trans h.2.2.1, fun k i a b => (h2.2.2.2 k i a b).trans (h.2.2.2 k i a b)⟩
theorem mlFr.ev {μ μ1 : gMem} (h : mkFr μ μ1) : mlFr μ μ1 := ⟨h.1, h.2.1, h.2.2.1, fun k i _ b => h.2.2.2 k i b⟩
theorem mlFr.nm {μ μ1 : gMem} (h : mlFr μ μ1) (j : Nat) (v : Int64) : mlFr μ (gsL μ1 734 0 j v) := by
  refine ⟨h.1, h.2.1, h.2.2.1, fun k i a b => ?_⟩
  show u3 μ1.2.1 734 0 j v k i = _
  rw [u3_row _ _ _ _ _ a]
  exact h.2.2.2 k i a b
set_option maxHeartbeats 4000000 in
theorem c_X10_calls {w p men : Nat} {cnt : Int32} (hd : 2 ≤ d) (hw : w < 23) (hp : p < 5) (hm : μ.1 707 0 0 = nI men) (hm5 : men ≤ 5) :
    Ctr l D d yX10_calls cX10_calls 5 none [.ref (D.2.2 10 0), .int (nI w), .int (nI p), .int cnt] μ (pV (fun μ' => mlFr μ μ' ∧ μ'.1 = μ.1 ∧ ∀ n, n < 7 → μ'.2.1 734 0 n = nms (μ.1 741 0 (5 * w + p)) (μ.1 740 0 (5 * w + p)) cnt (μ.1 742 0 (5 * w + p)) (mxF (fun k => μ.1 744 0 (5 * w + k)) (gnM μ) men 0 0 - μ.1 744 0 (5 * w + p)) (μ.1 737 0 w) n)) := by
  have hi : 5 * w + p < 115 := by omega
  refine en_X10_calls (fun Γ => bl_X10_calls_0 (by decide) ?_)
  rintro _ rfl
  refine ⟨5 * w + p, hi, ix5 w p, ?_⟩
  rintro _ rfl
  refine ⟨5 * w + p, hi, ix5 w p, ?_⟩
  rintro _ rfl _ rfl
  refine ⟨5 * w + p, hi, ix5 w p, ?_⟩
  rintro _ rfl
  refine ⟨5 * w + p, hi, ix5 w p, by omega, ?_⟩
  rintro _ rfl
  refine ⟨1, _, by omega, c_X10_greatest (Nat.le_refl 1) hw hm hm5, ?_⟩
  rintro v μ1 ⟨rfl, rfl⟩
  refine ⟨5 * w + p, hi, ix5 w p, ?_⟩
  rintro _ rfl
  refine ⟨w, hw, rfl, ?_⟩
  rintro _ rfl
  refine ⟨((((((mlFr.rf.nm _ _).nm _ _).nm _ _).nm _ _).nm _ _).nm _ _).nm _ _, rfl, ?_⟩
  intro n hn
  simp only [gsL]
  match n, hn with
  | 0, _ => simp [u3, nms]
  | 1, _ => simp [u3, nms]
  | 2, _ => simp [u3, nms]
  | 3, _ => simp [u3, nms]
  | 4, _ => simp [u3, nms]
  | 5, _ => simp [u3, nms, gnM]
  | 6, _ => simp [u3, nms]
theorem c_X10_hasLaw {r : Nat} (hr : r < 3) (hO : lwOk c fr to) (hL : LawM μ c fr to) : Ctr l D d yX10_hasLaw cX10_hasLaw 2 (some .boolean) [.ref (D.2.2 10 0), .int (nI r)] μ (pI (fun v μ' => v = bI (fr r < to r) ∧ μ' = μ)) := by
  obtain ⟨h1, h2, -⟩ := hL r hr
  obtain ⟨o1, o2, -⟩ := hO r hr
  refine en_X10_hasLaw (fun Γ => bl_X10_hasLaw_0 (by decide) ⟨r, by omega, rfl, r, by omega, rfl, ?_⟩)
  rw [h1, h2]
  refine ⟨fun h => ⟨?_, rfl⟩, fun h => ⟨?_, rfl⟩⟩
  · have h3 : to r ≤ fr r := (nI_leI (by omega) (by omega)).mp h
    simp [bI, Nat.not_lt.mpr h3]
  · have h3 : ¬ to r ≤ fr r := fun z => h ((nI_leI (by omega) (by omega)).mpr z)
    simp [bI, Nat.not_le.mp h3]
theorem c_X10_within {r : Nat} {most oth : Int32} {nm : Nat → Int64} (hd : 3 ≤ d) (hr : r < 3) (hO : lwOk c fr to) (hL : LawM μ c fr to) (hnm : ∀ n, n < 7 → μ.2.1 734 0 n = nm n) :
    Ctr l D d yX10_within cX10_within 4 (some .int) [.ref (D.2.2 10 0), .int (nI r), .int most, .int oth] μ (pI (fun v μ' => v = rulF (evR c fr to r nm) most oth ∧ mlFr μ μ')) := by
  obtain ⟨h1, h2, hcc⟩ := hL r hr
  obtain ⟨o1, o2, o3⟩ := hO r hr
  refine en_X10_within (fun Γ => bl_X10_within_0 (by decide) ⟨0, _, by omega, c_X10_hasLaw hr hO hL, ?_⟩)
  rintro v μ1 ⟨rfl, rfl⟩
  by_cases hlt : fr r < to r
  · refine ⟨fun h => by simp [bI, hlt] at h, fun _ => ⟨2, _, by omega, c_X10_goes (a := fr r) (b := to r) (Nat.le_refl 2) (by omega) (by omega) (by omega) h1 h2 hcc hnm (o3 hlt), ?_⟩⟩
    rintro v μ2 ⟨hF2, hv⟩
    simp only [evR, if_pos hlt]
    rcases hv with ⟨rfl, hE⟩ | ⟨rfl, z, hE, hz⟩
    · refine ⟨fun z => absurd rfl z, fun _ => ⟨?_, mlFr.ev hF2⟩⟩
      rw [hE]
      rfl
    · refine ⟨fun _ => ⟨by omega, by omega, ?_, mlFr.ev hF2⟩, fun z => absurd z (by decide)⟩
      rw [hE, hz]
      rfl
  · refine ⟨fun _ => ⟨?_, mlFr.rf⟩, fun h => absurd (by simp [bI, hlt]) h⟩
    simp only [evR, if_neg hlt]
    rfl
/-- with the band, or as if -/
def bnM (μ : gMem) (i : Nat) : Int32 := if μ.1 10 0 51 = 3 then 1 else μ.1 747 0 i
theorem c_X10_hasBand {w p : Nat} (hw : w < 23) (hp : p < 5) (hb : μ.1 747 0 (5 * w + p) = 0 ∨ μ.1 747 0 (5 * w + p) = 1) : Ctr l D d yX10_hasBand cX10_hasBand 3 (some .boolean) [.ref (D.2.2 10 0), .int (nI w), .int (nI p)] μ (pI (fun v μ' => v = bnM μ (5 * w + p) ∧ μ' = μ)) := by
  refine en_X10_hasBand (fun Γ => bl_X10_hasBand_0 (by decide) ⟨fun h => bl_X10_hasBand_1 ⟨by simp [bnM, h], rfl⟩, fun h => ⟨5 * w + p, by omega, ix5 w p, fun h2 => ⟨?_, rfl⟩, fun h2 => bl_X10_hasBand_1 ⟨by simp [bnM, h, h2], rfl⟩⟩⟩)
  rcases hb with e | e
  · simp [bnM, h, e]
  · exact absurd e h2
end MP
