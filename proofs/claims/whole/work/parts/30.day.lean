/-! A DAY OF A PERSON, as a function on numbers -/
/-- a sum of products over the deeds -/
def psum (f g : Nat → Int32) : Nat → Int32
  | 0 => 0
  | n + 1 => psum f g n + f n * g n
/-- what the names stand for -/
def nms (base goal cnt row bh dy : Int32) : Nat → Int64 := fun n => if n = 0 then base.toInt64 else if n = 1 then goal.toInt64 else if n = 2 then cnt.toInt64 else if n = 3 then row.toInt64 else if n = 4 then (imax 0 (goal - cnt)).toInt64 else if n = 5 then bh.toInt64 else dy.toInt64
theorem nms_in (base goal cnt row bh dy : Int32) (n : Nat) : inL (nms base goal cnt row bh dy n) := by
  unfold nms
  repeat' split
  all_goals exact inL_i _
/-- a rule's answer: its code worked out -/
def evR (c : Nat → Int32 × Int32) (fr to : Nat → Nat) (r : Nat) (nm : Nat → Int64) : Option Int64 := if fr r < to r then (match evn nm c (to r - fr r) (fr r) [] with | some [z] => some z | _ => none) else none
def rulF (e : Option Int64) (most oth : Int32) : Int32 := match e with | none => oth | some v => (jmax (0 : Int64) (jmin most.toInt64 v)).toInt32
/-- the codes of the three rules are well made -/
def lwOk (c : Nat → Int32 × Int32) (fr to : Nat → Nat) : Prop := ∀ r, r < 3 → fr r ≤ 64 ∧ to r ≤ 64 ∧ (fr r < to r → dpn c (to r - fr r) (fr r) 0 = some 1)
/-- no rule speaks of behind -/
def noBh (c : Nat → Int32 × Int32) (fr to : Nat → Nat) : Prop := ∀ r, r < 3 → ∀ i, fr r ≤ i → i < to r → ¬ c i = (1, 5)
theorem evs_cong {nm nm' : Nat → Int64} (h : ∀ n, ¬ n = 5 → nm n = nm' n) {c : Int32 × Int32} (hc : ¬ c = (1, 5)) (hz : c.1 = 1 → c.2 = nI c.2.toNatClampNeg) (st : List Int64) : evs nm c st = evs nm' c st := by
  unfold evs
  by_cases h1 : c.1 = 0
  · rw [if_pos h1, if_pos h1]
  · rw [if_neg h1, if_neg h1]
    by_cases h2 : c.1 = 1
    · rw [if_pos h2, if_pos h2, h]
      intro e
      have h3 := hz h2
      rw [e] at h3
      exact hc (Prod.ext h2 h3)
    · rw [if_neg h2, if_neg h2]
theorem evn_cong {nm nm' : Nat → Int64} (h : ∀ n, ¬ n = 5 → nm n = nm' n) {c : Nat → Int32 × Int32} : ∀ (n i k : Nat) (st : List Int64), (∀ j, i ≤ j → j < i + n → ¬ c j = (1, 5)) → (∃ z, dpn c n i k = some z) → evn nm c n i st = evn nm' c n i st := by
  intro n
  induction n with
  | zero => intro i k st _ _; rfl
  | succ n ih =>
    intro i k st hc hd
    obtain ⟨z, hz⟩ := hd
    simp only [evn]
    cases hs : dps (c i) k with
    | none => simp only [dpn, hs] at hz; cases hz
    | some k' =>
      have h1 : (c i).1 = 1 → (c i).2 = nI (c i).2.toNatClampNeg := by
        intro h2
        unfold dps at hs
        rw [if_neg (by rw [h2]; decide), if_pos h2] at hs
        by_cases h3 : (c i).2.toNatClampNeg < 7 ∧ (c i).2 = nI (c i).2.toNatClampNeg
        · exact h3.2
        · rw [if_neg h3] at hs; cases hs
      rw [evs_cong h (hc i (Nat.le_refl i) (by omega)) h1]
      cases evs nm' (c i) st with
      | none => rfl
      | some st' =>
        simp only [dpn, hs] at hz
        exact ih (i + 1) k' st' (fun j h2 h3 => hc j (by omega) (by omega)) ⟨z, hz⟩
theorem evR_cong {nm nm' : Nat → Int64} (h : ∀ n, ¬ n = 5 → nm n = nm' n) {c : Nat → Int32 × Int32} {fr to : Nat → Nat} (hO : lwOk c fr to) (hN : noBh c fr to) {r : Nat} (hr : r < 3) : evR c fr to r nm = evR c fr to r nm' := by
  unfold evR
  by_cases h1 : fr r < to r
  · rw [if_pos h1, if_pos h1, evn_cong h (to r - fr r) (fr r) 0 [] (fun j h2 h3 => hN r hr j h2 (by omega)) ⟨1, (hO r hr).2.2 h1⟩]
  · rw [if_neg h1, if_neg h1]
def dGr (wet b : Int32) : Int32 := if wet = 0 then b else b / 2
def dC0 (band gr pc ln : Int32) : Int32 := (if band = 0 then 0 else gr + pc) + ln
def dPu (goal c0 band pls pv : Int32) : Prop := ¬ goal ≤ c0 ∧ ¬ band = 0 ∧ pls = 0 ∧ ¬ pv < goal - c0
def dRow (goal c1 row : Int32) : Int32 := if c1 < goal then 0 else row + 1
def dBrk (goal c1 row brk : Int32) : Int32 := if c1 < goal ∧ ¬ row ≤ 0 then brk + 1 else brk
def dPen (pf c1 pn pe : Int32) : Int32 := if c1 < pf then pe else pe + pn
def dHab (row' row base : Int32) : Int32 := if ¬ row' ≤ 0 ∧ row' - row' / 7 * 7 = 0 then imin 99 (base + 1) else if row' = 0 ∧ ¬ row < 3 then imax 0 (base - 1) else base
/-- what is walked and counted: ev: the rules' answers by rule, count, row, behind; bh: how far behind with such a sum -/
noncomputable def dPv (ev : Nat → Int32 → Int32 → Int32 → Option Int64) (bh : Int32 → Int32) (pc pu wet : Int32) (P : Nat → Int32) : Int32 := rulF (ev 0 (dC0 (P 10) (dGr wet (P 1)) pc (P 9)) (P 2) (bh (P 4))) 99 pu
def dW1 (pc pr pls wet pv : Int32) (P : Nat → Int32) : Int32 := if ¬ P 0 ≤ dC0 (P 10) (dGr wet (P 1)) pc (P 9) ∧ ¬ P 10 = 0 ∧ pls = 0 ∧ ¬ pv < P 0 - dC0 (P 10) (dGr wet (P 1)) pc (P 9) then (dGr wet (P 1) + pr) + (P 0 - dC0 (P 10) (dGr wet (P 1)) pc (P 9)) else dGr wet (P 1) + pr
def dC1 (pc pls wet pv : Int32) (P : Nat → Int32) : Int32 := if ¬ P 0 ≤ dC0 (P 10) (dGr wet (P 1)) pc (P 9) ∧ ¬ P 10 = 0 ∧ pls = 0 ∧ ¬ pv < P 0 - dC0 (P 10) (dGr wet (P 1)) pc (P 9) then P 0 else dC0 (P 10) (dGr wet (P 1)) pc (P 9)
/-- behind the day, with w1 walked and c1 counted -/
def dEnd (ev : Nat → Int32 → Int32 → Int32 → Option Int64) (bh : Int32 → Int32) (pn pf w1 c1 : Int32) (P : Nat → Int32) : Nat → Int32 := fun j =>
  if j = 0 then P 0 else if j = 1 then rulF (ev 1 c1 (dRow (P 0) c1 (P 2)) (bh (P 4 + rulF (ev 2 c1 (dRow (P 0) c1 (P 2)) (bh (P 4))) 999 (imin c1 999)))) 99 (dHab (dRow (P 0) c1 (P 2)) (P 2) (P 1)) else
  if j = 2 then dRow (P 0) c1 (P 2) else if j = 3 then dBrk (P 0) c1 (P 2) (P 3) else if j = 4 then P 4 + rulF (ev 2 c1 (dRow (P 0) c1 (P 2)) (bh (P 4))) 999 (imin c1 999) else
  if j = 5 then P 5 + w1 else if j = 6 then P 6 + c1 else if j = 7 then dPen pf c1 pn (P 7) else if j = 8 then P 8 else if j = 9 then 0 else P j
noncomputable def pDay (ev : Nat → Int32 → Int32 → Int32 → Option Int64) (bh : Int32 → Int32) (pr pc pu pn pf pls wet : Int32) (P : Nat → Int32) : Nat → Int32 := dEnd ev bh pn pf (dW1 pc pr pls wet (dPv ev bh pc pu wet P) P) (dC1 pc pls wet (dPv ev bh pc pu wet P) P) P
/-! the class: sums over plans, steps, names, rules -/
section CD
variable {l : Launch} {D : gD} {d : Nat} {μ : gMem}
theorem inPlan_loop {Γ : gC} {q : Int32 → gMem → Prop} {t k1 i1 k2 i2 n : Nat} (ht : t < 2) (hk1 : gsh k1 = (1, (gsh k1).2.1, 0)) (hi1 : i1 < gkn k1) (hk2 : gsh k2 = (1, (gsh k2).2.1, 0)) (hi2 : i2 < gkn k2) (hn : μ.1 7 t 5 = nI n) (h1 : n ≤ (gsh k1).2.1) (h2 : n ≤ (gsh k2).2.1) (b1 : (gsh k1).2.1 < 2 ^ 31) (b2 : (gsh k2).2.1 < 2 ^ 31) (hq : q (psum (μ.1 k1 i1) (μ.1 k2 i2) n) μ) :
    ∀ m j : Nat, j + m = n → pt_X7_inPlan_1 l D d q Γ t k1 i1 k2 i2 (psum (μ.1 k1 i1) (μ.1 k2 i2) j) (nI j) μ := by
  intro m
  induction m with
  | zero =>
    intro j hj
    obtain rfl : j = n := by omega
    refine bl_X7_inPlan_1 ht hk1 hi1 hk2 hi2 ⟨fun _ => hq, fun h => ?_⟩
    rw [hn] at h
    exact absurd (nI_le (Nat.le_refl _) (by omega)) h
  | succ m ih =>
    intro j hj
    refine bl_X7_inPlan_1 ht hk1 hi1 hk2 hi2 ⟨fun h => ?_, fun _ => ⟨j, by omega, b1, rfl, j, by omega, b2, rfl, ?_⟩⟩
    · rw [hn] at h
      exact absurd h (nI_ge (by omega) (by omega))
    · rintro _ rfl _ rfl
      rw [nI_1]
      exact ih (j + 1) (by omega)
theorem c_X7_inPlan {t k1 i1 k2 i2 n : Nat} (ht : t < 2) (hk1 : gsh k1 = (1, (gsh k1).2.1, 0)) (hi1 : i1 < gkn k1) (hk2 : gsh k2 = (1, (gsh k2).2.1, 0)) (hi2 : i2 < gkn k2) (hn : μ.1 7 t 5 = nI n) (h1 : n ≤ (gsh k1).2.1) (h2 : n ≤ (gsh k2).2.1) (b1 : (gsh k1).2.1 < 2 ^ 31) (b2 : (gsh k2).2.1 < 2 ^ 31) :
    Ctr l D d yX7_inPlan cX7_inPlan 5 (some .int) [.ref (D.2.2 7 t), .ref (D.2.2 k1 i1), .ref (D.2.2 k2 i2)] μ (pI (fun v μ' => v = psum (μ.1 k1 i1) (μ.1 k2 i2) n ∧ μ' = μ)) := by
  refine en_X7_inPlan (fun Γ => bl_X7_inPlan_0 ht hk1 hi1 hk2 hi2 ?_)
  rintro _ rfl _ rfl
  exact inPlan_loop ht hk1 hi1 hk2 hi2 hn h1 h2 b1 b2 ⟨rfl, rfl⟩ n 0 (by omega)
theorem c_X4_stepsOn {i t n : Nat} {x1 : Int32} (hd : 1 ≤ d) (hi : i < 15) (ht : t < 2) (hn : μ.1 7 t 5 = nI n) (h1 : n ≤ 6) :
    Ctr l D d yX4_stepsOn cX4_stepsOn 3 (some .int) [.ref (D.2.2 4 i), .int x1, .ref (D.2.2 7 t)] μ (pI (fun v μ' => v = dC0 (μ.1 4 i 10) x1 (psum (μ.1 520 t) (μ.1 331 i) n) (μ.1 4 i 9) ∧ μ' = μ)) := by
  refine en_X4_stepsOn (fun Γ => bl_X4_stepsOn_0 hi ht ⟨fun h => bl_X4_stepsOn_1 hi ⟨by simp [dC0, h], rfl⟩, fun h => ⟨0, _, by omega, c_X7_inPlan (k1 := 520) (k2 := 331) ht rfl ht rfl hi hn h1 h1 (by decide) (by decide), ?_⟩⟩)
  rintro v μ' ⟨rfl, rfl⟩
  exact bl_X4_stepsOn_1 hi ⟨by simp [dC0, h], rfl⟩
/-- what a law changes: its own long rows alone -/
def lwFr (t : Nat) (μ μ' : gMem) : Prop := μ'.1 = μ.1 ∧ μ'.2.2 = μ.2.2 ∧ ∀ k i, ¬ (k = 196 ∧ i = t) → ¬ (k = 197 ∧ i = t) → ¬ (k = 2 ∧ i = t) → μ'.2.1 k i = μ.2.1 k i
theorem lwFr.rf {t : Nat} {μ : gMem} : lwFr t μ μ := ⟨rfl, rfl, fun _ _ _ _ _ => rfl⟩
theorem lwFr.tr {t : Nat} {μ μ1 μ2 : gMem} (h : lwFr t μ μ1) (h2 : lwFr t μ1 μ2) : lwFr t μ μ2 := ⟨h2.1.trans h.1, h2.2.1.trans h.2.1, fun k i a b c => (h2.2.2 k i a b c).trans (h.2.2 k i a b c)⟩
theorem lwFr.ev {t : Nat} {μ μ1 : gMem} (h : evFr t μ μ1) : lwFr t μ μ1 := ⟨h.1, h.2.1, fun k i a _ c => h.2.2 k i a c⟩
theorem lwFr.nm {t : Nat} {μ μ1 : gMem} (h : lwFr t μ μ1) (j : Nat) (v : Int64) : lwFr t μ (gsL μ1 197 t j v) := by
  refine ⟨h.1, h.2.1, fun k i a b c => ?_⟩
  show u3 μ1.2.1 197 t j v k i = _
  rw [u3_row _ _ _ _ _ b]
  exact h.2.2 k i a b c
/-- the greatest of a and of those that are there, from place i on -/
def mxF (f : Nat → Int32) (gone : Int32) : Nat → Nat → Int32 → Int32
  | 0, _, a => a
  | n + 1, i, a => mxF f gone n (i + 1) (if nI i = gone then a else imax a (f i))
def bhC (f : Nat → Int32) (gone mind own : Int32) : Int32 := (if mind = 0 then own else mxF f gone 5 0 own) - own
def qN (w t i : Nat) (cnt : Int32) (μ : gMem) : gMem → Prop := fun μ' => lwFr t μ μ' ∧ ∀ n, n < 7 → μ'.2.1 197 t n = nms (μ.1 4 i 1) (μ.1 4 i 0) cnt (μ.1 4 i 2) (bhC (fun k => μ.1 4 (5 * w + k) 4) (μ.1 8 w 5) (μ.1 2 t 8) (μ.1 4 i 4)) (μ.1 8 w 1) n
set_option maxHeartbeats 4000000 in
theorem setNames_3 {Γ : gC} {w t i : Nat} {cnt x4 : Int32} (hd : 0 < d) (hw : w < 3) (ht : t < 2) (hi : i < 15) (hx : x4 = (if μ.1 2 t 8 = 0 then μ.1 4 i 4 else mxF (fun k => μ.1 4 (5 * w + k) 4) (μ.1 8 w 5) 5 0 (μ.1 4 i 4))) : pt_X8_setNames_3 l D d (qN w t i cnt μ) Γ w t i cnt x4 μ := by
  refine bl_X8_setNames_3 hw ht hi ?_
  rintro _ rfl _ rfl _ rfl _ rfl
  refine ⟨hd, ?_⟩
  rintro _ rfl _ rfl _ rfl
  refine ⟨((((((lwFr.rf.nm _ _).nm _ _).nm _ _).nm _ _).nm _ _).nm _ _).nm _ _, ?_⟩
  intro n hn
  have e : x4 - μ.1 4 i 4 = bhC (fun k => μ.1 4 (5 * w + k) 4) (μ.1 8 w 5) (μ.1 2 t 8) (μ.1 4 i 4) := by rw [bhC, hx]
  simp only [gsL]
  rw [← e]
  match n, hn with
  | 0, _ => simp [u3, nms]
  | 1, _ => simp [u3, nms]
  | 2, _ => simp [u3, nms]
  | 3, _ => simp [u3, nms]
  | 4, _ => simp [u3, nms]
  | 5, _ => simp [u3, nms]
  | 6, _ => simp [u3, nms]
theorem setNames_loop {Γ : gC} {w t i : Nat} {cnt : Int32} (hd : 0 < d) (hw : w < 3) (ht : t < 2) (hi : i < 15) (hm : μ.1 2 t 8 = 0 ∨ μ.1 2 t 8 = 1) :
    ∀ (m j : Nat) (a : Int32), j + m = 5 → (μ.1 2 t 8 = 0 → a = μ.1 4 i 4) → mxF (fun k => μ.1 4 (5 * w + k) 4) (μ.1 8 w 5) m j a = mxF (fun k => μ.1 4 (5 * w + k) 4) (μ.1 8 w 5) 5 0 (μ.1 4 i 4) → pt_X8_setNames_1 l D d (qN w t i cnt μ) Γ w t i cnt a (nI j) μ := by
  intro m
  induction m with
  | zero =>
    intro j a hj h0 ha
    obtain rfl : j = 5 := by omega
    refine bl_X8_setNames_1 hw ht hi ⟨fun _ => setNames_3 hd hw ht hi ?_, fun h => absurd (by decide) h⟩
    by_cases hz : μ.1 2 t 8 = 0
    · rw [if_pos hz]; exact h0 hz
    · rw [if_neg hz]; exact ha
  | succ m ih =>
    intro j a hj h0 ha
    refine bl_X8_setNames_1 hw ht hi ⟨fun h => ?_, fun _ => ⟨hd, hm, fun hz => setNames_3 hd hw ht hi ?_, fun hz => ⟨fun hg => ?_, fun hg => ⟨j, by omega, rfl, hd, ?_⟩⟩⟩⟩
    · have h1 : nI 5 ≤ nI j := h
      exact absurd h1 (nI_ge (by omega) (by omega))
    · rw [if_pos hz]; exact h0 hz
    · refine bl_X8_setNames_2 hw ht hi ?_
      rintro _ rfl
      rw [nI_1]
      refine ih (j + 1) a (by omega) (fun z => absurd z hz) ?_
      simp only [mxF, if_pos hg] at ha
      exact ha
    · rintro _ rfl
      refine bl_X8_setNames_2 hw ht hi ?_
      rintro _ rfl
      rw [nI_1]
      refine ih (j + 1) _ (by omega) (fun z => absurd z hz) ?_
      simp only [mxF, if_neg hg] at ha
      exact ha
theorem c_X8_setNames {w t i : Nat} {cnt : Int32} (hd : 1 ≤ d) (hw : w < 3) (ht : t < 2) (hi : i < 15) (hm : μ.1 2 t 8 = 0 ∨ μ.1 2 t 8 = 1) :
    Ctr l D d yX8_setNames cX8_setNames 6 none [.ref (D.2.2 8 w), .ref (D.2.2 2 t), .ref (D.2.2 4 i), .int cnt] μ (pV (qN w t i cnt μ)) := by
  refine en_X8_setNames (fun Γ => bl_X8_setNames_0 hw ht hi ?_)
  rintro _ rfl _ rfl
  exact setNames_loop (by omega) hw ht hi hm 5 0 _ (by omega) (fun _ => rfl) rfl
end CD
