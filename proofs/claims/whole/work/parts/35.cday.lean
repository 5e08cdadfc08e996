/-! A DAY OF A WORLD -/
/-- who has the greatest, the first of several -/
def ldF (f : Nat → Int32) (gone : Int32) : Nat → Nat → Option Nat → Option Nat
  | 0, _, b => b
  | n + 1, i, b => ldF f gone n (i + 1) (if nI i = gone then b else match b with | none => some i | some k => if f i ≤ f k then some k else some i)
def onI (b : Option Nat) : Int32 := match b with | none => -1 | some k => nI k
theorem ldF_rng (f : Nat → Int32) (gone : Int32) : ∀ (n i : Nat) (b : Option Nat), (∀ k, b = some k → k < i) → ∀ k, ldF f gone n i b = some k → k < i + n := by
  intro n
  induction n with
  | zero => intro i b hb k hk; exact hb k hk
  | succ n ih =>
    intro i b hb k hk
    have h1 := ih (i + 1) _ ?_ k hk
    · omega
    · intro k' hk'
      split at hk'
      · have := hb k' hk'; omega
      · cases b with
        | none => simp at hk'; omega
        | some z =>
          have hz := hb z rfl
          simp only at hk'
          split at hk' <;> (cases hk'; omega)
/-- the persons, one behind another -/
def dayF (prs : Nat → Prop) [DecidablePred prs] (f : Nat → (Nat → Nat → Int32) → Nat → Int32) : Nat → Nat → (Nat → Nat → Int32) → (Nat → Nat → Int32)
  | 0, _, S => S
  | n + 1, i, S => dayF prs f n (i + 1) (if prs i then (fun k => if k = i then f i S else S k) else S)
/-- the pot is given -/
def potF (men : Nat) (gone pot : Int32) (S : Nat → Nat → Int32) : Nat → Nat → Int32 := fun k j => if j = 4 then 0 else if j = 8 ∧ ldF (fun z => S z 4) gone men 0 none = some k then S k 8 + pot else S k j
/-- one person's day in the world of the persons S -/
noncomputable def stF (c : Nat → Int32 × Int32) (fr to : Nat → Nat) (men : Nat) (gone dy pn pf pls wet : Int32) (pr pc pu : Nat → Int32) : Nat → (Nat → Nat → Int32) → Nat → Int32 := fun p S => pDay (fun r cnt row b => evR c fr to r (nms (S p 1) (S p 0) cnt row b dy)) (fun s => mxF (fun k => if k = p then s else S k 4) gone men 0 0 - s) (pr p) (pc p) (pu p) pn pf pls wet (S p)
/-- sums as they can be; persons as they can be -/
def sOk (men B : Nat) (S : Nat → Nat → Int32) : Prop := (∀ p, p < men → pOk (S p)) ∧ (∀ k, k < 5 → 0 ≤ (S k 4).toInt ∧ (S k 4).toInt ≤ B) ∧ ∀ k, men ≤ k → k < 5 → S k 4 = 0
section CW
variable {l : Launch} {D : gD} {d : Nat} {μ : gMem} {c : Nat → Int32 × Int32} {fr to : Nat → Nat}
theorem greatestC_loop {Γ : gC} {q : Int32 → gMem → Prop} {w men : Nat} (hw : w < 3) (hm5 : men ≤ 5) (hq : q (onI (ldF (fun k => μ.1 4 (5 * w + k) 4) (μ.1 8 w 5) men 0 none)) μ) :
    ∀ (m j : Nat) (b : Option Nat), j + m = men → (∀ k, b = some k → k < j) → ldF (fun k => μ.1 4 (5 * w + k) 4) (μ.1 8 w 5) m j b = ldF (fun k => μ.1 4 (5 * w + k) 4) (μ.1 8 w 5) men 0 none → pt_X8_greatest_1 l D d q Γ w (nI men) (onI b) (nI j) μ := by
  intro m
  induction m with
  | zero =>
    intro j b hj hb ha
    refine bl_X8_greatest_1 hw ⟨fun _ => ?_, fun h => ?_⟩
    · rw [show b = ldF (fun k => μ.1 4 (5 * w + k) 4) (μ.1 8 w 5) men 0 none from ha]
      exact hq
    · rw [show j = men by omega] at h
      exact absurd (nI_le (Nat.le_refl _) (by omega)) h
  | succ m ih =>
    intro j b hj hb ha
    have nx : ∀ b', (∀ k, b' = some k → k < j + 1) → ldF (fun k => μ.1 4 (5 * w + k) 4) (μ.1 8 w 5) m (j + 1) b' = ldF (fun k => μ.1 4 (5 * w + k) 4) (μ.1 8 w 5) men 0 none → pt_X8_greatest_3 l D d q Γ w (nI men) (onI b') (nI j) μ := by
      intro b' hb' ha'
      refine bl_X8_greatest_3 hw ?_
      rintro _ rfl
      rw [nI_1]
      exact ih (j + 1) b' (by omega) hb' ha'
    refine bl_X8_greatest_1 hw ⟨fun h => ?_, fun _ => ⟨fun hg => ?_, fun hg => ?_⟩⟩
    · exact absurd h (nI_ge (by omega) (by omega))
    · refine nx b (fun k hk => by have := hb k hk; omega) ?_
      simp only [ldF, if_pos hg] at ha
      exact ha
    · simp only [ldF, if_neg hg] at ha
      have set : ldF (fun k => μ.1 4 (5 * w + k) 4) (μ.1 8 w 5) m (j + 1) (some j) = ldF (fun k => μ.1 4 (5 * w + k) 4) (μ.1 8 w 5) men 0 none → pt_X8_greatest_2 l D d q Γ w (nI men) (nI j) μ := by
        intro h9
        refine bl_X8_greatest_2 hw ?_
        rintro _ rfl
        exact nx (some j) (fun k hk => by cases hk; omega) h9
      cases b with
      | none => exact ⟨fun _ => set ha, fun h => absurd rfl h⟩
      | some k =>
        have hk := hb k rfl
        refine ⟨fun h => absurd h (nI_nm1 (by omega)), fun _ => ⟨j, by omega, rfl, k, by omega, rfl, fun h => ?_, fun h => ?_⟩⟩
        · refine nx (some k) (fun z hz => by cases hz; omega) ?_
          simp only [if_pos h] at ha
          exact ha
        · refine set ?_
          simp only [if_neg h] at ha
          exact ha
theorem c_X8_greatest {w men : Nat} {x1 : Int32} (hw : w < 3) (hx : x1 = nI men) (hm5 : men ≤ 5) : Ctr l D d yX8_greatest cX8_greatest 4 (some .int) [.ref (D.2.2 8 w), .int x1] μ (pI (fun v μ' => v = onI (ldF (fun k => μ.1 4 (5 * w + k) 4) (μ.1 8 w 5) men 0 none) ∧ μ' = μ)) := by
  subst hx
  refine en_X8_greatest (fun Γ => bl_X8_greatest_0 hw ?_)
  rintro _ rfl _ rfl
  exact greatestC_loop hw hm5 ⟨rfl, rfl⟩ men 0 none (by omega) (fun k hk => by cases hk) rfl
/-- what a day of world w changes: its persons, its own slots day, wet, winner; the laws' long rows -/
def wFr (t w : Nat) (μ μ' : gMem) : Prop := (∀ k j, ¬ (k = 4 ∧ 5 * w ≤ j ∧ j < 5 * w + 5) → ¬ (k = 8 ∧ j = w) → μ'.1 k j = μ.1 k j) ∧ (∀ j, ¬ j = 1 → ¬ j = 2 → ¬ j = 4 → μ'.1 8 w j = μ.1 8 w j) ∧ μ'.2.2 = μ.2.2 ∧ ∀ k j, ¬ (k = 196 ∧ j = t) → ¬ (k = 197 ∧ j = t) → ¬ (k = 2 ∧ j = t) → μ'.2.1 k j = μ.2.1 k j
theorem wFr.rf {t w : Nat} {μ : gMem} : wFr t w μ μ := ⟨fun _ _ _ _ => rfl, fun _ _ _ _ => rfl, rfl, fun _ _ _ _ _ => rfl⟩
theorem wFr.tr {t w : Nat} {μ μ1 μ2 : gMem} (h : wFr t w μ μ1) (h2 : wFr t w μ1 μ2) : wFr t w μ μ2 := ⟨fun k j a b => (h2.1 k j a b).trans (h.1 k j a b), fun j a b e => (h2.2.1 j a b e).trans (h.2.1 j a b e), h2.2.2.1.trans h.2.2.1, fun k j a b e => (h2.2.2.2 k j a b e).trans (h.2.2.2 k j a b e)⟩
theorem wFr.per {t w p : Nat} {μ μ1 μ2 : gMem} (hp : p < 5) (h : wFr t w μ μ1) (h2 : pFr t (5 * w + p) μ1 μ2) : wFr t w μ μ2 := ⟨fun k j a b => (h2.1 k j (by omega)).trans (h.1 k j a b), fun j a b e => by rw [h2.1 8 w (by omega)]; exact h.2.1 j a b e, h2.2.1.trans h.2.2.1, fun k j a b e => (h2.2.2 k j a b e).trans (h.2.2.2 k j a b e)⟩
theorem wFr.put {t w p : Nat} {μ μ1 : gMem} (hp : p < 5) (h : wFr t w μ μ1) (j : Nat) (v : Int32) : wFr t w μ (gsI μ1 4 (5 * w + p) j v) := h.per hp (pFr.rf.put j v)
theorem wFr.own {t w : Nat} {μ μ1 : gMem} (h : wFr t w μ μ1) (j : Nat) (hj : j = 1 ∨ j = 2 ∨ j = 4) (v : Int32) : wFr t w μ (gsI μ1 8 w j v) := by
  refine ⟨fun k j' a b => (gsI_off b).trans (h.1 k j' a b), fun j' a b e => ?_, h.2.2.1, h.2.2.2⟩
  show u3 μ1.1 8 w j v 8 w j' = _
  rw [u3, if_neg (by omega)]
  exact h.2.1 j' a b e
theorem givePot_loop {Γ : gC} {t w men : Nat} {μ0 : gMem} {q : gMem → Prop} {S : Nat → Nat → Int32} (hw : w < 3) (ht : t < 2) (hm : μ0.1 7 t 0 = nI men) (hm5 : men ≤ 5) (hz : ∀ k, men ≤ k → k < 5 → S k 4 = 0)
    (hq : ∀ μ', wFr t w μ0 μ' → μ'.1 8 w = μ0.1 8 w → (∀ k, k < 5 → μ'.1 4 (5 * w + k) = fun j => if j = 4 then 0 else S k j) → q μ') :
    ∀ (m j : Nat) (μ : gMem), j + m = men → wFr t w μ0 μ → μ.1 8 w = μ0.1 8 w → (∀ k, k < 5 → μ.1 4 (5 * w + k) = fun z => if z = 4 ∧ k < j then 0 else S k z) → pt_X8_givePot_2 l D d q Γ w t (nI j) μ := by
  intro m
  induction m with
  | zero =>
    intro j μ hj hF h8 hr
    refine bl_X8_givePot_2 hw ht ⟨fun _ => hq μ hF h8 (fun k hk => ?_), fun h => ?_⟩
    · rw [hr k hk]
      funext z
      by_cases hz4 : z = 4
      · subst hz4
        by_cases hkj : k < j
        · simp [hkj]
        · simp [hkj, hz k (by omega) hk]
      · simp [hz4]
    · rw [hF.1 7 t (by omega) (by omega), hm, show j = men by omega] at h
      exact absurd (nI_le (Nat.le_refl _) (by omega)) h
  | succ m ih =>
    intro j μ hj hF h8 hr
    refine bl_X8_givePot_2 hw ht ⟨fun h => ?_, fun _ => ⟨j, by omega, rfl, ?_⟩⟩
    · rw [hF.1 7 t (by omega) (by omega), hm] at h
      exact absurd h (nI_ge (by omega) (by omega))
    · rintro _ rfl _ rfl
      rw [nI_1]
      refine ih (j + 1) _ (by omega) (hF.put (by omega) _ _) ?_ (fun k hk => ?_)
      · rw [gsI_off (by omega)]; exact h8
      · by_cases hkj : k = j
        · subst hkj
          rw [gsI_row, hr k hk]
          funext z
          by_cases hz4 : z = 4
          · subst hz4; simp
          · simp [hz4]
        · rw [gsI_off (by omega), hr k hk]
          funext z
          by_cases hkj2 : k < j
          · simp [hkj2, Nat.lt_succ_of_lt hkj2]
          · simp [hkj2, show ¬ k < j + 1 by omega]
theorem c_X8_givePot {t w men : Nat} {S : Nat → Nat → Int32} (hd : 1 ≤ d) (hw : w < 3) (ht : t < 2) (hm : μ.1 7 t 0 = nI men) (hm5 : men ≤ 5) (hz : ∀ k, men ≤ k → k < 5 → S k 4 = 0) (hr : ∀ k, k < 5 → μ.1 4 (5 * w + k) = S k) :
    Ctr l D d yX8_givePot cX8_givePot 3 none [.ref (D.2.2 8 w), .ref (D.2.2 7 t)] μ (pV (fun μ' => wFr t w μ μ' ∧ (μ'.1 8 w = fun j => if j = 4 then onI (ldF (fun z => S z 4) (μ.1 8 w 5) men 0 none) else μ.1 8 w j) ∧ ∀ k, k < 5 → μ'.1 4 (5 * w + k) = potF men (μ.1 8 w 5) (μ.1 7 t 12) S k)) := by
  have hld : ldF (fun k => μ.1 4 (5 * w + k) 4) (μ.1 8 w 5) men 0 none = ldF (fun z => S z 4) (μ.1 8 w 5) men 0 none := by
    have gen : ∀ (n i : Nat) (b : Option Nat), i + n ≤ 5 → (∀ k, b = some k → k < i) → ldF (fun k => μ.1 4 (5 * w + k) 4) (μ.1 8 w 5) n i b = ldF (fun z => S z 4) (μ.1 8 w 5) n i b := by
      intro n
      induction n with
      | zero => intro i b _ _; rfl
      | succ n ih =>
        intro i b hi hb
        simp only [ldF]
        cases b with
        | none =>
          refine ih (i + 1) _ (by omega) ?_
          intro k hk
          split at hk
          · cases hk
          · cases hk; omega
        | some z =>
          have hz9 := hb z rfl
          simp only [hr i (by omega), hr z (by omega)]
          refine ih (i + 1) _ (by omega) ?_
          intro k hk
          split at hk
          · cases hk; omega
          · split at hk <;> (cases hk; omega)
    exact gen men 0 none (by omega) (fun k hk => by cases hk)
  refine en_X8_givePot (fun Γ => bl_X8_givePot_0 hw ht ⟨0, _, by omega, c_X8_greatest hw hm hm5, ?_⟩)
  rintro v μ1 ⟨rfl, rfl⟩ μ2 hμ2
  rw [hld] at hμ2
  have hF2 : wFr t w μ1 μ2 := by rw [hμ2]; exact wFr.rf.own 4 (by omega) _
  have h8 : μ2.1 8 w = fun j => if j = 4 then onI (ldF (fun z => S z 4) (μ1.1 8 w 5) men 0 none) else μ1.1 8 w j := by rw [hμ2, gsI_row]
  have h84 : μ2.1 8 w 4 = onI (ldF (fun z => S z 4) (μ1.1 8 w 5) men 0 none) := by rw [h8]; rfl
  have hr2 : ∀ k, k < 5 → μ2.1 4 (5 * w + k) = S k := fun k hk => by rw [hμ2, gsI_off (by omega)]; exact hr k hk
  have lp : ∀ (μ3 : gMem) (S3 : Nat → Nat → Int32), wFr t w μ1 μ3 → μ3.1 8 w = μ2.1 8 w → (∀ k, k < 5 → μ3.1 4 (5 * w + k) = S3 k) → (∀ k, men ≤ k → k < 5 → S3 k 4 = 0) → (∀ k, k < 5 → (fun j => if j = 4 then 0 else S3 k j) = potF men (μ1.1 8 w 5) (μ1.1 7 t 12) S k) → pt_X8_givePot_1 l D d (fun μ' => wFr t w μ1 μ' ∧ (μ'.1 8 w = fun j => if j = 4 then onI (ldF (fun z => S z 4) (μ1.1 8 w 5) men 0 none) else μ1.1 8 w j) ∧ ∀ k, k < 5 → μ'.1 4 (5 * w + k) = potF men (μ1.1 8 w 5) (μ1.1 7 t 12) S k) Γ w t μ3 := by
    intro μ3 S3 hF3 h83 hr3 hz3 hpot
    refine bl_X8_givePot_1 hw ht ?_
    rintro _ rfl
    refine givePot_loop (μ0 := μ3) (S := S3) hw ht (by rw [hF3.1 7 t (by omega) (by omega)]; exact hm) hm5 hz3 ?_ men 0 μ3 (by omega) wFr.rf rfl (fun k hk => ?_)
    · intro μ' hF' h8' hr'
      refine ⟨hF3.tr hF', by rw [h8', h83, h8], fun k hk => ?_⟩
      rw [hr' k hk, ← hpot k hk]
    · rw [hr3 k hk]
      funext z
      simp
  obtain ⟨bo, hb⟩ : ∃ bo, ldF (fun z => S z 4) (μ1.1 8 w 5) men 0 none = bo := ⟨_, rfl⟩
  cases bo with
  | none =>
    have hm1 : μ2.1 8 w 4 = -1 := by rw [h84, hb]; rfl
    refine ⟨fun _ => lp μ2 S hF2 rfl hr2 hz (fun k hk => ?_), fun h => absurd hm1 h⟩
    funext j
    simp [potF, hb]
  | some b =>
    have hb5 : b < men := by
      have := ldF_rng (fun z => S z 4) (μ1.1 8 w 5) men 0 none (fun k hk => by cases hk) b hb
      omega
    have hm1 : μ2.1 8 w 4 = nI b := by rw [h84, hb]; rfl
    refine ⟨fun h => absurd (hm1.symm.trans h) (nI_nm1 (by omega)), fun _ => ⟨b, by omega, hm1, ?_⟩⟩
    rintro μ3 hμ3
    have hF3 : wFr t w μ1 μ3 := by rw [hμ3]; exact hF2.put (by omega) _ _
    refine lp μ3 (fun k => if k = b then (fun j => if j = 8 then S b 8 + μ1.1 7 t 12 else S b j) else S k) hF3 (by rw [hμ3, gsI_off (by omega)]) (fun k hk => ?_) (fun k h1 h2 => ?_) (fun k hk => ?_)
    · by_cases hkb : k = b
      · subst hkb
        rw [hμ3, gsI_row, hr2 k hk, hF2.1 7 t (by omega) (by omega), if_pos rfl]
      · rw [hμ3, gsI_off (by omega), hr2 k hk, if_neg hkb]
    · rw [if_neg (by omega)]
      exact hz k h1 h2
    · funext j
      by_cases hkb : k = b
      · subst hkb
        by_cases j4 : j = 4
        · simp [potF, j4]
        · by_cases j8 : j = 8
          · simp [potF, hb, j8]
          · simp [potF, j4, j8]
      · have hbk : ¬ b = k := fun z => hkb z.symm
        by_cases j4 : j = 4
        · simp [potF, j4]
        · simp [potF, hb, j4, hkb, hbk]
/-- behind so many days: is the pot due -/
def potDue (dy bd : Nat) : Prop := (dy + 1) % bd = 0
theorem stF_ok {men B p : Nat} {gone dy pn pf pls wet : Int32} {pr pc pu : Nat → Int32} {S : Nat → Nat → Int32} (hp : pOk (S p)) (hs : 0 ≤ (S p 4).toInt ∧ (S p 4).toInt ≤ B) (hB : B ≤ 1000000) (hpc : 0 ≤ (pc p).toInt ∧ (pc p).toInt ≤ 2000) : pOk (stF c fr to men gone dy pn pf pls wet pr pc pu p S) ∧ (S p 4).toInt ≤ (stF c fr to men gone dy pn pf pls wet pr pc pu p S 4).toInt ∧ (stF c fr to men gone dy pn pf pls wet pr pc pu p S 4).toInt ≤ (S p 4).toInt + 999 := by
  have h := pDay_ok (ev := fun r cnt row b => evR c fr to r (nms (S p 1) (S p 0) cnt row b dy)) (bh := fun s => mxF (fun k => if k = p then s else S k 4) gone men 0 0 - s) (pr := pr p) (pu := pu p) (pn := pn) (pf := pf) (pls := pls) (wet := wet) hp hpc
  exact ⟨h.1, h.2 hs.1 (by omega)⟩
set_option maxHeartbeats 4000000 in
theorem passDay_loop {Γ : gC} {q : gMem → Prop} {t w men n B : Nat} {μ0 : gMem} {wet gone only dy : Int32} {F : Nat → Nat → Int32} {prs : Nat → Prop} [DecidablePred prs] (hd : 4 ≤ d) (hw : w < 3) (ht : t < 2) (hm : μ0.1 7 t 0 = nI men) (hm5 : men ≤ 5) (hn : μ0.1 7 t 5 = nI n) (hn6 : n ≤ 6) (hO : lwOk c fr to) (hL : LawC μ0 t c fr to) (hB : B ≤ 1000000) (hgone : μ0.1 8 w 5 = gone) (honly : μ0.1 8 w 6 = only) (hdy : μ0.1 8 w 1 = dy) (hpc : ∀ p, p < men → 0 ≤ (psum (μ0.1 520 t) (μ0.1 331 (5 * w + p)) n).toInt ∧ (psum (μ0.1 520 t) (μ0.1 331 (5 * w + p)) n).toInt ≤ 2000)
    (hprs : ∀ p, p < men → (prs p ↔ ¬ nI p = gone ∧ (only = -1 ∨ only = nI p)))
    (hend : ∀ μ', wFr t w μ0 μ' → μ'.1 8 w = μ0.1 8 w → (∀ k, k < 5 → μ'.1 4 (5 * w + k) = F k) → pt_X8_passDay_1 l D d q Γ w t wet (nI men) μ') :
    ∀ (m j : Nat) (μ : gMem) (S : Nat → Nat → Int32), j + m = men → wFr t w μ0 μ → μ.1 8 w = μ0.1 8 w → (∀ k, k < 5 → μ.1 4 (5 * w + k) = S k) → (∀ p, p < men → pOk (S p)) → (∀ k, k < 5 → 0 ≤ (S k 4).toInt ∧ (S k 4).toInt ≤ B + 999 ∧ (j ≤ k → (S k 4).toInt ≤ B)) → (∀ k, men ≤ k → k < 5 → S k 4 = 0) →
      (∀ k, k < 5 → dayF prs (stF c fr to men gone dy (μ0.1 7 t 14) (μ0.1 7 t 15) (μ0.1 8 w 7) wet (fun p => psum (μ0.1 519 t) (μ0.1 331 (5 * w + p)) n) (fun p => psum (μ0.1 520 t) (μ0.1 331 (5 * w + p)) n) (fun p => μ0.1 516 t p)) m j S k = F k) → pt_X8_passDay_1 l D d q Γ w t wet (nI j) μ := by
  intro m
  induction m with
  | zero =>
    intro j μ S hj hF h8 hr _ _ _ hS
    rw [show j = men by omega]
    exact hend μ hF h8 (fun k hk => by rw [hr k hk, ← hS k hk]; rfl)
  | succ m ih =>
    intro j μ S hj hF h8 hr hpo hsum hz hS
    have hj5 : j < 5 := by omega
    have skip : ¬ prs j → pt_X8_passDay_3 l D d q Γ w t wet (nI j) μ := by
      intro hnp
      refine bl_X8_passDay_3 hw ht ?_
      rintro _ rfl
      rw [nI_1]
      refine ih (j + 1) μ S (by omega) hF h8 hr hpo (fun k hk => ⟨(hsum k hk).1, (hsum k hk).2.1, fun h => (hsum k hk).2.2 (by omega)⟩) hz (fun k hk => ?_)
      rw [← hS k hk]
      simp only [dayF, if_neg hnp]
    have goes : prs j → pt_X8_passDay_2 l D d q Γ w t wet (nI j) μ := by
      intro hp
      have hpr := (hprs j (by omega)).mp hp
      have g7 := hF.1 7 t (by omega) (by omega)
      have g519 := hF.1 519 t (by omega) (by omega)
      have g520 := hF.1 520 t (by omega) (by omega)
      have g516 := hF.1 516 t (by omega) (by omega)
      have g331 := hF.1 331 (5 * w + j) (by omega) (by omega)
      have g2 := hF.1 2 t (by omega) (by omega)
      have hLj : LawC μ t c fr to := hL.of (hF.1 _ _ (by omega) (by omega)) (hF.1 _ _ (by omega) (by omega)) (hF.1 _ _ (by omega) (by omega)) (hF.1 _ _ (by omega) (by omega)) (by rw [g2])
      have hstep := stF_ok (c := c) (fr := fr) (to := to) (men := men) (gone := gone) (dy := dy) (pn := μ0.1 7 t 14) (pf := μ0.1 7 t 15) (pls := μ0.1 8 w 7) (wet := wet) (pr := fun p => psum (μ0.1 519 t) (μ0.1 331 (5 * w + p)) n) (pc := fun p => psum (μ0.1 520 t) (μ0.1 331 (5 * w + p)) n) (pu := fun p => μ0.1 516 t p) (S := S) (p := j) (hpo j (by omega)) ⟨(hsum j hj5).1, (hsum j hj5).2.2 (Nat.le_refl j)⟩ hB (hpc j (by omega))
      have hrj := hr j hj5
      have key := c_X8_passPerson (l := l) (D := D) (d := 3) (μ := μ) (c := c) (fr := fr) (to := to) (w := w) (t := t) (p := j) (n := n) (wet := wet) (bh := fun s => mxF (fun k => if k = j then s else S k 4) gone men 0 0 - s) (Nat.le_refl 3) hw ht hj5 (by rw [g7]; exact hn) hn6 hO hLj (by
          intro hmind s hs0
          have hs0' : 0 ≤ s.toInt := by rw [i32_le, i32_0] at hs0; exact hs0
          have ef : (fun k => if k = j then s else μ.1 4 (5 * w + k) 4) = (fun k => if k = j then s else μ.1 4 (5 * w + k) 4) := rfl
          have e5 : mxF (fun k => if k = j then s else μ.1 4 (5 * w + k) 4) (μ.1 8 w 5) 5 0 s = mxF (fun k => if k = j then s else μ.1 4 (5 * w + k) 4) (μ.1 8 w 5) men 0 0 := by
            rw [h8, hgone]
            refine mxF_eq hm5 (by omega) hpr.1 (if_pos rfl) (fun k hk => ?_) (fun k h1 h2 => ?_)
            · by_cases hkj : k = j
              · rw [if_pos hkj]; exact hs0'
              · rw [if_neg hkj, hr k hk]; exact (hsum k hk).1
            · rw [if_neg (by omega), hr k h2]; exact hz k h1 h2
          have e6 : mxF (fun k => if k = j then s else μ.1 4 (5 * w + k) 4) (μ.1 8 w 5) men 0 0 = mxF (fun k => if k = j then s else S k 4) gone men 0 0 := by
            rw [h8, hgone]
            have cong : ∀ (f g : Nat → Int32) (n i : Nat) (a : Int32), i + n ≤ 5 → (∀ k, k < 5 → f k = g k) → mxF f gone n i a = mxF g gone n i a := by
              intro f g n
              induction n with
              | zero => intro i a _ _; rfl
              | succ n ih2 =>
                intro i a hi hfg
                simp only [mxF]
                rw [hfg i (by omega)]
                exact ih2 (i + 1) _ (by omega) hfg
            refine cong _ _ men 0 0 (by omega) (fun k hk => ?_)
            by_cases hkj : k = j
            · rw [if_pos hkj, if_pos hkj]
            · rw [if_neg hkj, if_neg hkj, hr k hk]
          show bhC _ _ _ s = _
          rw [bhC, if_neg hmind, e5, e6])
        (by rw [hrj, i32_le, i32_0]; exact (hsum j hj5).1)
        (by
          rw [hrj, g7, g519, g520, g516, g331, h8, hdy, i32_le, i32_0]
          exact Int.le_trans (hsum j hj5).1 hstep.2.1)
      rw [hrj, g7, g519, g520, g516, g331, h8, hdy] at key
      refine bl_X8_passDay_2 hw ht ⟨3, _, by omega, key, ?_⟩
      rintro μ2 ⟨hF2, hr2⟩
      refine bl_X8_passDay_3 hw ht ?_
      rintro _ rfl
      rw [nI_1]
      refine ih (j + 1) μ2 (fun k => if k = j then stF c fr to men gone dy (μ0.1 7 t 14) (μ0.1 7 t 15) (μ0.1 8 w 7) wet (fun p => psum (μ0.1 519 t) (μ0.1 331 (5 * w + p)) n) (fun p => psum (μ0.1 520 t) (μ0.1 331 (5 * w + p)) n) (fun p => μ0.1 516 t p) j S else S k) (by omega) (hF.per hj5 hF2) (by rw [hF2.1 8 w (by omega)]; exact h8) (fun k hk => ?_) (fun p hp2 => ?_) (fun k hk => ?_) (fun k h1 h2 => ?_) (fun k hk => ?_)
      · by_cases hkj : k = j
        · subst hkj
          rw [if_pos rfl]
          exact hr2
        · rw [if_neg hkj, hF2.1 4 (5 * w + k) (by omega)]
          exact hr k hk
      · by_cases hkj : p = j
        · subst hkj
          rw [if_pos rfl]
          exact hstep.1
        · rw [if_neg hkj]
          exact hpo p hp2
      · by_cases hkj : k = j
        · subst hkj
          rw [if_pos rfl]
          have h1 := (hsum k hk).1
          have h2 := (hsum k hk).2.2 (Nat.le_refl k)
          have h3 := hstep.2
          exact ⟨by omega, by omega, fun z => by omega⟩
        · rw [if_neg hkj]
          exact ⟨(hsum k hk).1, (hsum k hk).2.1, fun h => (hsum k hk).2.2 (by omega)⟩
      · rw [if_neg (by omega)]
        exact hz k h1 h2
      · rw [← hS k hk]
        simp only [dayF, if_pos hp]
    have hlt : ¬ μ.1 7 t 0 ≤ nI j := by
      rw [hF.1 7 t (by omega) (by omega), hm]
      exact nI_ge (by omega) (by omega)
    refine bl_X8_passDay_1 hw ht ⟨fun h => absurd h hlt, fun _ => ?_⟩
    rw [h8, hgone, honly]
    have hiff := hprs j (by omega)
    refine ⟨fun h => skip (fun z => (hiff.mp z).1 h), fun h => ⟨fun h2 => goes (hiff.mpr ⟨h, Or.inl h2⟩), fun h2 => ⟨fun h3 => skip (fun z => ?_), fun h3 => goes (hiff.mpr ⟨h, Or.inr h3⟩)⟩⟩⟩
    rcases (hiff.mp z).2 with h4 | h4
    · exact h2 h4
    · exact h3 h4
end CW
