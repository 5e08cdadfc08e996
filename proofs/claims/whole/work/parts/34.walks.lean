/-! the reference's walks -/
def mpFr (i : Nat) (μ μ' : gMem) : Prop := (∀ k j, ¬ (740 ≤ k ∧ k ≤ 750 ∧ j = 0) → ¬ (k = 10 ∧ j = 0) → μ'.1 k j = μ.1 k j) ∧ (∀ k, 740 ≤ k → k ≤ 750 → ∀ z, ¬ z = i → μ'.1 k 0 z = μ.1 k 0 z) ∧ (∀ j, ¬ j = 32 → μ'.1 10 0 j = μ.1 10 0 j) ∧ μ'.2.2 = μ.2.2 ∧ ∀ k j, ¬ (k = 734 ∧ j = 0) → ¬ (k = 735 ∧ j = 0) → μ'.2.1 k j = μ.2.1 k j
theorem mpFr.rf {i : Nat} {μ : gMem} : mpFr i μ μ := ⟨fun _ _ _ _ => rfl, fun _ _ _ _ _ => rfl, fun _ _ => rfl, rfl, fun _ _ _ _ => rfl⟩
theorem mpFr.put {i k : Nat} {μ μ1 : gMem} (h : mpFr i μ μ1) (h1 : 740 ≤ k) (h2 : k ≤ 750) (v : Int32) : mpFr i μ (gsI μ1 k 0 i v) := by
  refine ⟨fun k' j a b => ?_, fun k' a b z hz => ?_, fun j hj => ?_, h.2.2.2.1, h.2.2.2.2⟩
  · rw [gsI_off (by omega)]
    exact h.1 k' j a b
  · show u3 μ1.1 k 0 i v k' 0 z = _
    rw [u3, if_neg (fun q => hz q.2.2)]
    exact h.2.1 k' a b z hz
  · rw [gsI_off (by omega)]
    exact h.2.2.1 j hj
theorem mpFr.ml {i : Nat} {μ μ1 μ2 : gMem} (h : mpFr i μ μ1) (h2 : mlFr μ1 μ2) : mpFr i μ μ2 := by
  refine ⟨fun k j a b => ?_, fun k a b z hz => ?_, fun j hj => ?_, h2.2.2.1.trans h.2.2.2.1, fun k j a b => (h2.2.2.2 k j a b).trans (h.2.2.2.2 k j a b)⟩
  · rw [h2.1 k j b]; exact h.1 k j a b
  · rw [h2.1 k 0 (by omega)]; exact h.2.1 k a b z hz
  · rw [h2.2.1 j hj]; exact h.2.2.1 j hj
theorem PM_ml {i : Nat} {μ μ' : gMem} (h : mlFr μ μ') : PM μ' i = PM μ i := by
  funext j
  unfold PM
  by_cases hj : j ≤ 10
  · rw [if_pos hj, if_pos hj, h.1 (mkk j) 0 (by have := mkk_rng j (by omega); omega)]
  · rw [if_neg hj, if_neg hj]
theorem mpFr.law {i : Nat} {μ μ1 : gMem} {c : Nat → Int32 × Int32} {fr to : Nat → Nat} (h : mpFr i μ μ1) (hL : LawM μ c fr to) : LawM μ1 c fr to := hL.of (h.1 _ _ (by omega) (by omega)) (h.1 _ _ (by omega) (by omega)) (h.1 _ _ (by omega) (by omega)) (h.1 _ _ (by omega) (by omega))
theorem imin_comm (x y : Int32) : imin x y = imin y x := by
  apply Int32.toInt_inj.mp
  rw [imin_toInt, imin_toInt]
  split <;> split <;> omega
/-- what the reference's world w says of person p, with what is tried -/
def evM (μ : gMem) (c : Nat → Int32 × Int32) (fr to : Nat → Nat) (w i : Nat) : Nat → Int32 → Int32 → Int32 → Option Int64 := fun r cnt row b => evR c fr to r (nms (PM μ i 1) (PM μ i 0) cnt row b (μ.1 737 0 w))
def bhM (μ : gMem) (w p men : Nat) : Int32 → Int32 := fun s => mxF (fun k => if k = p then s else μ.1 744 0 (5 * w + k)) (gnM μ) men 0 0 - s
def peM (μ : gMem) (i : Nat) : Nat → Int32 := fun j => if j = 10 then bnM μ i else PM μ i j
def prM (μ : gMem) (w p k n : Nat) : Int32 := if μ.1 10 0 51 = 4 then 0 else psum (μ.1 k 0) (fun q => μ.1 751 0 (30 * w + 6 * p + q)) n
def plM (μ : gMem) : Int32 := if μ.1 10 0 51 = 5 then 1 else 0
set_option maxHeartbeats 8000000 in
theorem c_X10_walks {l : Launch} {D : gD} {d : Nat} {μ : gMem} {c : Nat → Int32 × Int32} {fr to : Nat → Nat} {w p n men : Nat} {wet : Int32} (hd : 4 ≤ d) (hw : w < 23) (hp : p < 5) (hm : μ.1 707 0 0 = nI men) (hm5 : men ≤ 5) (hn : μ.1 707 0 1 = nI n) (hn6 : n ≤ 6) (hO : lwOk c fr to) (hL : LawM μ c fr to) (hbd : μ.1 747 0 (5 * w + p) = 0 ∨ μ.1 747 0 (5 * w + p) = 1) (hrow : 0 ≤ (μ.1 742 0 (5 * w + p)).toInt ∧ (μ.1 742 0 (5 * w + p)).toInt ≤ 1000000) :
    Ctr l D d yX10_walks cX10_walks 11 none [.ref (D.2.2 10 0), .int (nI w), .int (nI p), .int wet] μ (pV (fun μ' => mpFr (5 * w + p) μ μ' ∧ ∀ j, PM μ' (5 * w + p) j = if j = 10 then PM μ (5 * w + p) 10 else pDay (evM μ c fr to w (5 * w + p)) (bhM μ w p men) (prM μ w p 713 n) (prM μ w p 714 n) (μ.1 711 0 p) (μ.1 707 0 5) (μ.1 707 0 6) (plM μ) wet (peM μ (5 * w + p)) j)) := by
  refine en_X10_walks (fun Γ => ?_)
  have hi : 5 * w + p < 115 := by omega
  have hix := ix5 w p
  obtain ⟨i, ei⟩ : ∃ i, i = 5 * w + p := ⟨_, rfl⟩
  rw [← ei] at hi hbd hrow hix ⊢
  obtain ⟨ev, eev⟩ : ∃ ev, ev = evM μ c fr to w i := ⟨_, rfl⟩
  obtain ⟨bh, ebh⟩ : ∃ bh, bh = bhM μ w p men := ⟨_, rfl⟩
  obtain ⟨P, eP⟩ : ∃ P, P = peM μ i := ⟨_, rfl⟩
  have P0 : PM μ i 0 = P 0 := by rw [eP]; rfl
  have P1 : PM μ i 1 = P 1 := by rw [eP]; rfl
  have P2 : PM μ i 2 = P 2 := by rw [eP]; rfl
  have P3 : PM μ i 3 = P 3 := by rw [eP]; rfl
  have P4 : PM μ i 4 = P 4 := by rw [eP]; rfl
  have P5 : PM μ i 5 = P 5 := by rw [eP]; rfl
  have P6 : PM μ i 6 = P 6 := by rw [eP]; rfl
  have P7 : PM μ i 7 = P 7 := by rw [eP]; rfl
  have P9 : PM μ i 9 = P 9 := by rw [eP]; rfl
  have P10 : bnM μ i = P 10 := by rw [eP]; rfl
  rw [← eev, ← ebh, ← eP]
  obtain ⟨q, eq⟩ : ∃ q : gMem → Prop, q = (fun μ' => mpFr i μ μ' ∧ ∀ j, PM μ' i j = if j = 10 then PM μ i 10 else pDay ev bh (prM μ w p 713 n) (prM μ w p 714 n) (μ.1 711 0 p) (μ.1 707 0 5) (μ.1 707 0 6) (plM μ) wet P j) := ⟨_, rfl⟩
  rw [← eq]
  have g707 : ∀ μ1 : gMem, mpFr i μ μ1 → μ1.1 707 0 = μ.1 707 0 := fun μ1 h => h.1 707 0 (by omega) (by omega)
  have gtry : ∀ μ1 : gMem, mpFr i μ μ1 → μ1.1 10 0 51 = μ.1 10 0 51 := fun μ1 h => h.2.2.1 51 (by decide)
  have ggn : ∀ μ1 : gMem, mpFr i μ μ1 → gnM μ1 = gnM μ := fun μ1 h => by unfold gnM; rw [gtry μ1 h, h.2.2.1 52 (by decide)]
  -- calls, at a memory of this day
  have callN : ∀ (μ1 : gMem) (cnt : Int32) (d' : Nat), 2 ≤ d' → mpFr i μ μ1 → Ctr l D d' yX10_calls cX10_calls 5 none [.ref (D.2.2 10 0), .int (nI w), .int (nI p), .int cnt] μ1 (pV (fun μ' => mlFr μ1 μ' ∧ ∀ n, n < 7 → μ'.2.1 734 0 n = nms (PM μ1 i 1) (PM μ1 i 0) cnt (PM μ1 i 2) (bh (PM μ1 i 4)) (μ.1 737 0 w) n)) := by
    intro μ1 cnt d' hd' hF
    have h9 := c_X10_calls (l := l) (D := D) (μ := μ1) (p := p) (cnt := cnt) hd' hw hp (by rw [g707 μ1 hF]; exact hm) hm5
    have e9 : mxF (fun k => μ1.1 744 0 (5 * w + k)) (gnM μ1) men 0 0 - μ1.1 744 0 i = bh (PM μ1 i 4) := by
      rw [ebh, bhM, ggn μ1 hF]
      have e8 : (fun k => μ1.1 744 0 (5 * w + k)) = (fun k => if k = p then PM μ1 i 4 else μ.1 744 0 (5 * w + k)) := by
        funext k
        by_cases hk : k = p
        · subst hk; rw [if_pos rfl, ← ei]; rfl
        · rw [if_neg hk, hF.2.1 744 (by omega) (by omega) (5 * w + k) (by omega)]
      rw [e8]
      rfl
    rw [← ei, e9, hF.1 737 0 (by omega) (by omega)] at h9
    refine Ctr.mono h9 ?_
    rintro r μ' ⟨rfl, h1, -, h3⟩
    exact ⟨rfl, h1, h3⟩
  -- the last part: base, and nothing lent
  have at9 : ∀ (μ1 μ2 : gMem) (c1 w1 x10 : Int32), mpFr i μ μ1 → (∀ j, PM μ1 i j = if j = 10 then PM μ i 10 else if j = 7 then dPen (μ.1 707 0 6) c1 (μ.1 707 0 5) (P 7) else if j = 6 then P 6 + c1 else if j = 5 then P 5 + w1 else if j = 4 then P 4 + rulF (ev 2 c1 (dRow (P 0) c1 (P 2)) (bh (P 4))) 999 (imin c1 999) else if j = 3 then dBrk (P 0) c1 (P 2) (P 3) else if j = 2 then dRow (P 0) c1 (P 2) else P j) → mlFr μ1 μ2 → (∀ n, n < 7 → μ2.2.1 734 0 n = nms (P 1) (P 0) c1 (dRow (P 0) c1 (P 2)) (bh (P 4 + rulF (ev 2 c1 (dRow (P 0) c1 (P 2)) (bh (P 4))) 999 (imin c1 999))) (μ.1 737 0 w) n) → x10 = dHab (dRow (P 0) c1 (P 2)) (P 2) (P 1) → (dEnd ev bh (μ.1 707 0 5) (μ.1 707 0 6) w1 c1 P = pDay ev bh (prM μ w p 713 n) (prM μ w p 714 n) (μ.1 711 0 p) (μ.1 707 0 5) (μ.1 707 0 6) (plM μ) wet P) → pt_X10_walks_9 l D d q Γ 0 (nI i) x10 μ2 := by
    intro μ1 μ2 c1 w1 x10 hF1 hr1 hF2 hnm hx hEnd
    have hF12 := hF1.ml hF2
    refine bl_X10_walks_9 (by decide) ⟨3, _, by omega, c_X10_within (r := 1) (Nat.le_refl 3) (by decide) hO (hF12.law hL) hnm, ?_⟩
    rintro v μ3 ⟨rfl, hF3⟩
    refine ⟨i, hi, rfl, ?_⟩
    rintro μ4 hμ4
    refine ⟨i, hi, rfl, ?_⟩
    rintro μ5 hμ5
    have h4 := PM_put (μ := μ3) (i := i) (v := rulF (evR c fr to 1 (nms (P 1) (P 0) c1 (dRow (P 0) c1 (P 2)) (bh (P 4 + rulF (ev 2 c1 (dRow (P 0) c1 (P 2)) (bh (P 4))) 999 (imin c1 999))) (μ.1 737 0 w))) 99 x10) 1 (by decide)
    have h5 := PM_put (μ := μ4) (i := i) (v := 0) 9 (by decide)
    have e4 : PM μ4 i = fun j => if j = 1 then _ else PM μ3 i j := (congrArg (fun m => PM m i) hμ4).trans h4
    have e5 : PM μ5 i = fun j => if j = 9 then _ else PM μ4 i j := (congrArg (fun m => PM m i) hμ5).trans h5
    rw [eq]
    refine ⟨?_, fun j => ?_⟩
    · rw [hμ5]
      refine mpFr.put ?_ (by omega) (by omega) _
      rw [hμ4]
      exact (hF12.ml hF3).put (by omega) (by omega) _
    · rw [e5, e4, ← hEnd]
      have e3 : PM μ3 i j = PM μ1 i j := by rw [PM_ml hF3, PM_ml hF2]
      have ee : ev 1 c1 (dRow (P 0) c1 (P 2)) (bh (P 4 + rulF (ev 2 c1 (dRow (P 0) c1 (P 2)) (bh (P 4))) 999 (imin c1 999))) = evR c fr to 1 (nms (P 1) (P 0) c1 (dRow (P 0) c1 (P 2)) (bh (P 4 + rulF (ev 2 c1 (dRow (P 0) c1 (P 2)) (bh (P 4))) 999 (imin c1 999))) (μ.1 737 0 w)) := by
        rw [show ∀ a b z, ev 1 a b z = evR c fr to 1 (nms (PM μ i 1) (PM μ i 0) a b z (μ.1 737 0 w)) from fun a b z => by rw [eev]; rfl, P1, P0]
      simp only [e3, hr1]
      unfold dEnd
      rw [ee, hx]
      by_cases j0 : j = 0
      · subst j0; simp
      by_cases j1 : j = 1
      · subst j1; simp
      by_cases j2 : j = 2
      · subst j2; simp
      by_cases j3 : j = 3
      · subst j3; simp
      by_cases j4 : j = 4
      · subst j4; simp
      by_cases j5 : j = 5
      · subst j5; simp
      by_cases j6 : j = 6
      · subst j6; simp
      by_cases j7 : j = 7
      · subst j7; simp
      by_cases j9 : j = 9
      · subst j9; simp
      by_cases j10 : j = 10
      · subst j10; simp
      by_cases j8 : j = 8
      · subst j8; simp
      simp [j0, j1, j2, j3, j4, j5, j6, j7, j8, j9, j10]
  -- from the laws of fair and habit on
  have at7 : ∀ (μ1 : gMem) (c1 w1 x9 : Int32), (x9 = 0 ∧ c1 < P 0 ∨ x9 = 1 ∧ ¬ c1 < P 0) → mpFr i μ μ1 → (∀ j, PM μ1 i j = if j = 10 then PM μ i 10 else if j = 7 then dPen (μ.1 707 0 6) c1 (μ.1 707 0 5) (P 7) else if j = 6 then P 6 + c1 else if j = 5 then P 5 + w1 else if j = 3 then dBrk (P 0) c1 (P 2) (P 3) else if j = 2 then dRow (P 0) c1 (P 2) else P j) → (dEnd ev bh (μ.1 707 0 5) (μ.1 707 0 6) w1 c1 P = pDay ev bh (prM μ w p 713 n) (prM μ w p 714 n) (μ.1 711 0 p) (μ.1 707 0 5) (μ.1 707 0 6) (plM μ) wet P) → pt_X10_walks_7 l D d q Γ 0 (nI w) (nI p) (nI i) c1 (P 2) x9 μ1 := by
    intro μ1 c1 w1 x9 hx9 hF1 hr1 hEnd
    refine bl_X10_walks_7 (by decide) ⟨2, _, by omega, callN μ1 c1 2 (Nat.le_refl 2) hF1, ?_⟩
    rintro μ2 ⟨hF2, hnm2⟩
    have hF12 := hF1.ml hF2
    refine ⟨i, hi, rfl, by omega, 3, _, by omega, c_X10_within (r := 2) (Nat.le_refl 3) (by decide) hO (hF12.law hL) hnm2, ?_⟩
    rintro v μ3 ⟨rfl, hF3⟩
    refine ⟨i, hi, rfl, ?_⟩
    rintro μ4 hμ4
    have hF4 : mpFr i μ μ4 := by rw [hμ4]; exact (hF12.ml hF3).put (by omega) (by omega) _
    have es : rulF (evR c fr to 2 (nms (PM μ1 i 1) (PM μ1 i 0) c1 (PM μ1 i 2) (bh (PM μ1 i 4)) (μ.1 737 0 w))) 999 (imin 999 c1) = rulF (ev 2 c1 (dRow (P 0) c1 (P 2)) (bh (P 4))) 999 (imin c1 999) := by
      have a1 : PM μ1 i 1 = P 1 := hr1 1
      have a0 : PM μ1 i 0 = P 0 := hr1 0
      have a2 : PM μ1 i 2 = dRow (P 0) c1 (P 2) := hr1 2
      have a4 : PM μ1 i 4 = P 4 := hr1 4
      rw [a1, a0, a2, a4, imin_comm, show ∀ a b z, ev 2 a b z = evR c fr to 2 (nms (PM μ i 1) (PM μ i 0) a b z (μ.1 737 0 w)) from fun a b z => by rw [eev]; rfl, P1, P0]
    have e744 : μ2.1 744 0 i = P 4 := by
      have a4 : PM μ1 i 4 = P 4 := hr1 4
      have a5 : PM μ2 i 4 = P 4 := by rw [PM_ml hF2]; exact a4
      exact a5
    have hr4 : ∀ j, PM μ4 i j = if j = 10 then PM μ i 10 else if j = 7 then dPen (μ.1 707 0 6) c1 (μ.1 707 0 5) (P 7) else if j = 6 then P 6 + c1 else if j = 5 then P 5 + w1 else if j = 4 then P 4 + rulF (ev 2 c1 (dRow (P 0) c1 (P 2)) (bh (P 4))) 999 (imin c1 999) else if j = 3 then dBrk (P 0) c1 (P 2) (P 3) else if j = 2 then dRow (P 0) c1 (P 2) else P j := by
      intro j
      have h4 := PM_put (μ := μ3) (i := i) (v := P 4 + rulF (ev 2 c1 (dRow (P 0) c1 (P 2)) (bh (P 4))) 999 (imin c1 999)) 4 (by decide)
      rw [e744, es] at hμ4
      have e4 : PM μ4 i = fun j => if j = 4 then _ else PM μ3 i j := (congrArg (fun m => PM m i) hμ4).trans h4
      have e3 : PM μ3 i j = PM μ1 i j := by rw [PM_ml hF3, PM_ml hF2]
      rw [e4]
      simp only [e3, hr1]
      by_cases j4 : j = 4
      · subst j4; simp
      · simp [j4]
    refine ⟨2, _, by omega, callN μ4 c1 2 (Nat.le_refl 2) hF4, ?_⟩
    rintro μ5 ⟨hF5, hnm5⟩
    refine ⟨i, hi, rfl, ?_⟩
    have b1 : PM μ4 i 1 = P 1 := hr4 1
    have b0 : PM μ4 i 0 = P 0 := hr4 0
    have b2 : PM μ4 i 2 = dRow (P 0) c1 (P 2) := hr4 2
    have b4 : PM μ4 i 4 = P 4 + rulF (ev 2 c1 (dRow (P 0) c1 (P 2)) (bh (P 4))) 999 (imin c1 999) := hr4 4
    rw [b1, b0, b2, b4] at hnm5
    have c741 : μ5.1 741 0 i = P 1 := by
      have a5 : PM μ5 i 1 = P 1 := by rw [PM_ml hF5]; exact b1
      exact a5
    have c742 : μ5.1 742 0 i = dRow (P 0) c1 (P 2) := by
      have a5 : PM μ5 i 2 = dRow (P 0) c1 (P 2) := by rw [PM_ml hF5]; exact b2
      exact a5
    rintro x10 hx10
    rw [c741] at hx10
    subst hx10
    have fin9 := fun x10 hx => at9 μ4 μ5 c1 w1 x10 hF4 hr4 hF5 hnm5 hx hEnd
    have hP2 : 0 ≤ (P 2).toInt ∧ (P 2).toInt ≤ 1000000 := by rw [← P2]; exact hrow
    refine ⟨fun h0 => bl_X10_walks_8 (by decide) ⟨fun h9 => absurd h0 h9, fun _ => ⟨fun h3 => fin9 _ ?_, fun h3 => ⟨by omega, ?_⟩⟩⟩, fun h0 => ⟨i, hi, rfl, fun h7 => bl_X10_walks_8 (by decide) ⟨fun _ => fin9 _ ?_, fun z => absurd z h0⟩, fun h7 => ⟨by omega, ?_⟩⟩⟩
    · rcases hx9 with ⟨-, hc⟩ | ⟨h9, -⟩
      · simp [dHab, dRow, hc, h3]
      · rw [h9] at h0; exact absurd h0 (by decide)
    · rintro _ rfl
      refine fin9 _ ?_
      rcases hx9 with ⟨-, hc⟩ | ⟨h9, -⟩
      · simp [dHab, dRow, hc, h3]
      · rw [h9] at h0; exact absurd h0 (by decide)
    · rcases hx9 with ⟨h9, -⟩ | ⟨-, hc⟩
      · exact absurd h9 h0
      · rw [c742] at h7
        have er : dRow (P 0) c1 (P 2) = P 2 + 1 := by simp [dRow, hc]
        have en0 : ¬ P 2 + 1 = 0 := by
          intro z
          have z1 := congrArg Int32.toInt z
          rw [fb_addI (by rw [i32_1]; omega) (by rw [i32_1]; omega), i32_1, i32_0] at z1
          omega
        unfold dHab
        rw [if_neg (fun z => h7 z.2), if_neg (fun z => en0 (er ▸ z.1))]
    · rintro _ rfl
      refine fin9 _ ?_
      rcases hx9 with ⟨h9, -⟩ | ⟨-, hc⟩
      · exact absurd h9 h0
      · rw [c742] at h7
        have er : dRow (P 0) c1 (P 2) = P 2 + 1 := by simp [dRow, hc]
        have en0 : ¬ dRow (P 0) c1 (P 2) ≤ 0 := by
          rw [er, i32_le, fb_addI (by rw [i32_1]; omega) (by rw [i32_1]; omega), i32_1, i32_0]
          omega
        unfold dHab
        rw [if_pos ⟨en0, h7⟩]
  -- row, broken, pence
  have at3 : ∀ (μ1 : gMem) (c1 w1 : Int32), mpFr i μ μ1 → PM μ1 i = PM μ i → (dEnd ev bh (μ.1 707 0 5) (μ.1 707 0 6) w1 c1 P = pDay ev bh (prM μ w p 713 n) (prM μ w p 714 n) (μ.1 711 0 p) (μ.1 707 0 5) (μ.1 707 0 6) (plM μ) wet P) → pt_X10_walks_3 l D d q Γ 0 (nI w) (nI p) (nI i) w1 c1 μ1 := by
    intro μ1 c1 w1 hF1 hr1 hEnd
    have hPj : ∀ j, ¬ j = 10 → PM μ i j = P j := by
      intro j hj
      rw [eP, peM, if_neg hj]
    refine bl_X10_walks_3 (by decide) ⟨i, hi, rfl, i, hi, rfl, ?_⟩
    rintro μ2 hμ2
    refine ⟨i, hi, rfl, i, hi, rfl, ?_⟩
    rintro μ3 hμ3
    have a745 : μ1.1 745 0 i = P 5 := by
      have a : PM μ1 i 5 = P 5 := by rw [hr1]; exact P5
      exact a
    rw [a745] at hμ2
    have e2 : PM μ2 i = fun j => if j = 5 then P 5 + w1 else PM μ1 i j := (congrArg (fun m => PM m i) hμ2).trans (PM_put 5 (by decide))
    have a746 : μ2.1 746 0 i = P 6 := by
      have a : PM μ2 i 6 = P 6 := by rw [e2, hr1]; exact P6
      exact a
    rw [a746] at hμ3
    have e3 : PM μ3 i = fun j => if j = 6 then P 6 + c1 else PM μ2 i j := (congrArg (fun m => PM m i) hμ3).trans (PM_put 6 (by decide))
    have hF3 : mpFr i μ μ3 := by
      rw [hμ3]
      refine mpFr.put ?_ (by omega) (by omega) _
      rw [hμ2]
      exact hF1.put (by omega) (by omega) _
    have r3 : ∀ j, PM μ3 i j = if j = 10 then PM μ i 10 else if j = 6 then P 6 + c1 else if j = 5 then P 5 + w1 else P j := by
      intro j
      rw [e3, e2, hr1]
      by_cases j10 : j = 10
      · subst j10; simp
      · by_cases j6 : j = 6
        · subst j6; simp
        · by_cases j5 : j = 5
          · subst j5; simp
          · simp [j10, j6, j5, hPj j j10]
    refine ⟨i, hi, rfl, ?_⟩
    rintro x8 hx8
    have a742 : μ3.1 742 0 i = P 2 := r3 2
    have a740 : μ3.1 740 0 i = P 0 := r3 0
    rw [a742] at hx8
    subst hx8
    refine ⟨i, hi, rfl, ?_⟩
    rw [a740]
    -- pence
    have at6 : ∀ (μ4 : gMem) (x9 : Int32), (x9 = 0 ∧ c1 < P 0 ∨ x9 = 1 ∧ ¬ c1 < P 0) → mpFr i μ μ4 → (∀ j, PM μ4 i j = if j = 10 then PM μ i 10 else if j = 6 then P 6 + c1 else if j = 5 then P 5 + w1 else if j = 3 then dBrk (P 0) c1 (P 2) (P 3) else if j = 2 then dRow (P 0) c1 (P 2) else P j) → pt_X10_walks_6 l D d q Γ 0 (nI w) (nI p) (nI i) c1 (P 2) x9 μ4 := by
      intro μ4 x9 hx9 hF4 hr4
      refine bl_X10_walks_6 (by decide) ?_
      rw [g707 μ4 hF4]
      refine ⟨fun h6 => at7 μ4 c1 w1 x9 hx9 hF4 ?_ hEnd, fun h6 => ⟨i, hi, rfl, i, hi, rfl, ?_⟩⟩
      · intro j
        rw [hr4]
        by_cases j7 : j = 7
        · subst j7; simp [dPen, h6]
        · simp [j7]
      · rintro μ5 hμ5
        have a749 : μ4.1 749 0 i = P 7 := hr4 7
        rw [a749] at hμ5
        have e5 : PM μ5 i = fun j => if j = 7 then P 7 + μ.1 707 0 5 else PM μ4 i j := (congrArg (fun m => PM m i) hμ5).trans (PM_put 7 (by decide))
        refine at7 μ5 c1 w1 x9 hx9 (by rw [hμ5]; exact hF4.put (by omega) (by omega) _) ?_ hEnd
        intro j
        rw [e5]
        simp only [hr4]
        by_cases j7 : j = 7
        · subst j7; simp [dPen, h6]
        · simp [j7]
    have at4 : ∀ x9 : Int32, (x9 = 0 ∧ c1 < P 0 ∨ x9 = 1 ∧ ¬ c1 < P 0) → pt_X10_walks_4 l D d q Γ 0 (nI w) (nI p) (nI i) c1 (P 2) x9 μ3 := by
      intro x9' hx9'
      refine bl_X10_walks_4 (by decide) ?_
      rintro x9 rfl
      have at5 : ∀ z : Int32, z = dRow (P 0) c1 (P 2) → pt_X10_walks_5 l D d q Γ 0 (nI w) (nI p) (nI i) c1 (P 2) x9 0 (nI i) z μ3 := by
        intro z hz
        refine bl_X10_walks_5 (by decide) (by decide) ⟨i, hi, rfl, ?_⟩
        rintro μ4 hμ4
        have e4 : PM μ4 i = fun j => if j = 2 then z else PM μ3 i j := (congrArg (fun m => PM m i) hμ4).trans (PM_put 2 (by decide))
        have hF4 : mpFr i μ μ4 := by rw [hμ4]; exact hF3.put (by omega) (by omega) _
        refine ⟨fun h0 => at6 μ4 x9 hx9' hF4 ?_, fun h0 => ⟨fun h8 => at6 μ4 x9 hx9' hF4 ?_, fun h8 => ⟨i, hi, rfl, i, hi, rfl, ?_⟩⟩⟩
        · have hc : ¬ c1 < P 0 := by
            rcases hx9' with ⟨h9, -⟩ | ⟨-, h9⟩
            · exact absurd h9 h0
            · exact h9
          intro j
          rw [e4]
          simp only [r3]
          by_cases j3 : j = 3
          · subst j3; simp [dBrk, hc]
          · by_cases j2 : j = 2
            · subst j2; simp [hz]
            · simp [j3, j2]
        · intro j
          rw [e4]
          simp only [r3]
          by_cases j3 : j = 3
          · subst j3; simp [dBrk, h8]
          · by_cases j2 : j = 2
            · subst j2; simp [hz]
            · simp [j3, j2]
        · have hc : c1 < P 0 := by
            rcases hx9' with ⟨-, h9⟩ | ⟨h9, -⟩
            · exact h9
            · rw [h9] at h0; exact absurd h0 (by decide)
          rintro μ5 hμ5
          have a743 : μ4.1 743 0 i = P 3 := by
            have a : PM μ4 i 3 = P 3 := by rw [e4]; exact r3 3
            exact a
          rw [a743] at hμ5
          have e5 : PM μ5 i = fun j => if j = 3 then P 3 + 1 else PM μ4 i j := (congrArg (fun m => PM m i) hμ5).trans (PM_put 3 (by decide))
          refine at6 μ5 x9 hx9' (by rw [hμ5]; exact hF4.put (by omega) (by omega) _) ?_
          intro j
          rw [e5, e4]
          simp only [r3]
          by_cases j3 : j = 3
          · subst j3; simp [dBrk, h8, hc]
          · by_cases j2 : j = 2
            · subst j2; simp [hz]
            · simp [j3, j2]
      refine ⟨fun h0 => at5 _ ?_, fun h0 => at5 _ ?_⟩
      · rcases hx9' with ⟨-, h9⟩ | ⟨h9, -⟩
        · simp [dRow, h9]
        · rw [h9] at h0; exact absurd h0 (by decide)
      · rcases hx9' with ⟨h9, -⟩ | ⟨-, h9⟩
        · exact absurd h9 h0
        · simp [dRow, h9]
    exact ⟨fun h => at4 0 (Or.inl ⟨rfl, h⟩), fun h => at4 1 (Or.inr ⟨rfl, h⟩)⟩
  -- the push
  have at2 : ∀ x : Int32, P 9 + x = dC0 (P 10) (dGr wet (P 1)) (prM μ w p 714 n) (P 9) → pt_X10_walks_2 l D d q Γ 0 (nI w) (nI p) (nI i) (dGr wet (P 1) + prM μ w p 713 n) (P 9) x μ := by
    intro x hx
    have nopush : ∀ μ3 : gMem, mpFr i μ μ3 → PM μ3 i = PM μ i → ¬ (¬ P 0 ≤ dC0 (P 10) (dGr wet (P 1)) (prM μ w p 714 n) (P 9) ∧ ¬ P 10 = 0 ∧ plM μ = 0 ∧ ¬ dPv ev bh (prM μ w p 714 n) (μ.1 711 0 p) wet P < P 0 - dC0 (P 10) (dGr wet (P 1)) (prM μ w p 714 n) (P 9)) → pt_X10_walks_3 l D d q Γ 0 (nI w) (nI p) (nI i) (dGr wet (P 1) + prM μ w p 713 n) (dC0 (P 10) (dGr wet (P 1)) (prM μ w p 714 n) (P 9)) μ3 := by
      intro μ3 hF3 hr3 hno
      refine at3 μ3 _ _ hF3 hr3 ?_
      unfold pDay dW1 dC1
      rw [if_neg hno, if_neg hno]
    refine bl_X10_walks_2 (by decide) ?_
    rintro _ rfl
    rw [hx]
    have a740 : μ.1 740 0 i = P 0 := P0
    refine ⟨i, hi, rfl, ?_⟩
    rw [a740]
    refine ⟨fun h1 => nopush μ mpFr.rf rfl (fun z => z.1 h1), fun h1 => ⟨0, _, by omega, c_X10_hasBand hw hp (by rw [← ei]; exact hbd), ?_⟩⟩
    rintro v μ1 ⟨rfl, rfl⟩
    rw [← ei, P10]
    refine ⟨fun h2 => nopush μ1 mpFr.rf rfl (fun z => z.2.1 h2), fun h2 => ⟨fun h3 => nopush μ1 mpFr.rf rfl (fun z => by simp [plM, h3] at z), fun h3 => ⟨2, _, by omega, callN μ1 _ 2 (Nat.le_refl 2) mpFr.rf, ?_⟩⟩⟩
    rintro μ2 ⟨hF2, hnm⟩
    have hFm := (mpFr.rf (i := i) (μ := μ1)).ml hF2
    have b740 : μ2.1 740 0 i = P 0 := by
      have a : PM μ2 i 0 = P 0 := by rw [PM_ml hF2]; exact P0
      exact a
    refine ⟨i, hi, rfl, ?_⟩
    rintro x8 hx8
    rw [b740] at hx8
    subst hx8
    refine ⟨p, by omega, rfl, 3, _, by omega, c_X10_within (r := 0) (Nat.le_refl 3) (by decide) hO (hFm.law hL) hnm, ?_⟩
    rintro v μ3 ⟨hv, hF3⟩
    have hFm3 := hFm.ml hF3
    have hr3 : PM μ3 i = PM μ1 i := by rw [PM_ml hF3, PM_ml hF2]
    have hpv : v = dPv ev bh (prM μ1 w p 714 n) (μ1.1 711 0 p) wet P := by
      rw [hv, dPv, hFm.1 711 0 (by omega) (by omega), show ∀ a b z, ev 0 a b z = evR c fr to 0 (nms (PM μ1 i 1) (PM μ1 i 0) a b z (μ1.1 737 0 w)) from fun a b z => by rw [eev]; rfl, P2, P4]
    refine ⟨fun h4 => nopush μ3 hFm3 hr3 (fun z => z.2.2.2 (by rw [← hpv]; exact h4)), fun h4 => ?_⟩
    rintro _ rfl
    refine ⟨i, hi, rfl, ?_⟩
    rintro x7 hx7
    have c740 : μ3.1 740 0 i = P 0 := by
      have a : PM μ3 i 0 = P 0 := by rw [hr3]; exact P0
      exact a
    rw [c740] at hx7
    subst hx7
    refine at3 μ3 _ _ hFm3 hr3 ?_
    have hyes : ¬ P 0 ≤ dC0 (P 10) (dGr wet (P 1)) (prM μ1 w p 714 n) (P 9) ∧ ¬ P 10 = 0 ∧ plM μ1 = 0 ∧ ¬ dPv ev bh (prM μ1 w p 714 n) (μ1.1 711 0 p) wet P < P 0 - dC0 (P 10) (dGr wet (P 1)) (prM μ1 w p 714 n) (P 9) := ⟨h1, h2, by simp [plM, h3], by rw [← hpv]; exact h4⟩
    unfold pDay dW1 dC1
    rw [if_pos hyes, if_pos hyes]
  -- the beginning
  have head : ∀ x : Int32, x = dGr wet (P 1) → pt_X10_walks_1 l D d q Γ 0 (nI w) (nI p) (nI i) x μ := by
    intro x hx
    refine bl_X10_walks_1 (by decide) ?_
    rintro _ rfl
    refine ⟨0, _, by omega, c_X10_deedSteps (k3 := 713) hw hp rfl (by decide) hn hn6 (Nat.le_trans hn6 (by decide)) (by decide), ?_⟩
    rintro v μ1 ⟨rfl, rfl⟩ _ rfl
    refine ⟨i, hi, rfl, 0, _, by omega, c_X10_hasBand hw hp (by rw [← ei]; exact hbd), ?_⟩
    rintro v μ2 ⟨rfl, rfl⟩
    have a748 : μ2.1 748 0 i = P 9 := P9
    rw [← ei, P10, a748, hx]
    refine ⟨fun h0 => at2 0 ?_, fun h0 => ⟨0, _, by omega, c_X10_deedSteps (k3 := 714) hw hp rfl (by decide) hn hn6 (Nat.le_trans hn6 (by decide)) (by decide), ?_⟩⟩
    · simp [dC0, h0]
    · rintro v μ3 ⟨rfl, rfl⟩
      refine at2 _ ?_
      rw [dC0, if_neg h0, Int32.add_comm]
      rfl
  refine bl_X10_walks_0 (by decide) ?_
  rintro x4 hx4
  rw [hix] at hx4
  subst hx4
  have a741 : μ.1 741 0 i = P 1 := P1
  exact ⟨fun h => ⟨i, hi, rfl, head _ (by rw [a741]; simp [dGr, h])⟩, fun h => ⟨i, hi, rfl, head _ (by rw [a741]; simp [dGr, h])⟩⟩
