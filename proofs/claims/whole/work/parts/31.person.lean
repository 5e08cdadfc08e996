/-! World.ruled, habitOf, passPerson -/
def LawC (μ : gMem) (t : Nat) (c : Nat → Int32 × Int32) (fr to : Nat → Nat) : Prop := (∀ r, r < 3 → μ.1 194 t r = nI (fr r) ∧ μ.1 195 t r = nI (to r) ∧ ∀ i, fr r ≤ i → i < to r → c i = ck (μ.1 192 t i) (μ.1 193 t i)) ∧ (μ.1 2 t 8 = 0 ∨ μ.1 2 t 8 = 1) ∧ (μ.1 2 t 8 = 0 → noBh c fr to)
theorem LawC.of {μ μ' : gMem} {t : Nat} {c : Nat → Int32 × Int32} {fr to : Nat → Nat} (h : LawC μ t c fr to) (h1 : μ'.1 192 t = μ.1 192 t) (h2 : μ'.1 193 t = μ.1 193 t) (h3 : μ'.1 194 t = μ.1 194 t) (h4 : μ'.1 195 t = μ.1 195 t) (h5 : μ'.1 2 t 8 = μ.1 2 t 8) : LawC μ' t c fr to := by
  unfold LawC
  rw [h1, h2, h3, h4, h5]
  exact h
theorem gsI_row {μ : gMem} {k i j : Nat} {v : Int32} : (gsI μ k i j v).1 k i = fun q => if q = j then v else μ.1 k i q := by
  funext q
  simp [gsI, u3]
theorem gsI_off {μ : gMem} {k i j : Nat} {v : Int32} {k' i' : Nat} (h : ¬ (k' = k ∧ i' = i)) : (gsI μ k i j v).1 k' i' = μ.1 k' i' := u3_row _ _ _ _ _ h
section CP
variable {l : Launch} {D : gD} {d : Nat} {μ : gMem} {c : Nat → Int32 × Int32} {fr to : Nat → Nat}
theorem c_X2_isTold {t r : Nat} (ht : t < 2) (hr : r < 3) (hO : lwOk c fr to) (hL : LawC μ t c fr to) : Ctr l D d yX2_isTold cX2_isTold 2 (some .boolean) [.ref (D.2.2 2 t), .int (nI r)] μ (pI (fun v μ' => v = bI (fr r < to r) ∧ μ' = μ)) := by
  obtain ⟨h1, h2, -⟩ := hL.1 r hr
  obtain ⟨o1, o2, -⟩ := hO r hr
  refine en_X2_isTold (fun Γ => bl_X2_isTold_0 ht ⟨r, hr, rfl, r, hr, rfl, ?_⟩)
  rw [h1, h2]
  refine ⟨fun h => ⟨?_, rfl⟩, fun h => ⟨?_, rfl⟩⟩
  · have h3 : to r ≤ fr r := (nI_leI (by omega) (by omega)).mp h
    simp [bI, Nat.not_lt.mpr h3]
  · have h3 : ¬ to r ≤ fr r := fun z => h ((nI_leI (by omega) (by omega)).mpr z)
    simp [bI, Nat.not_le.mp h3]
theorem c_X8_ruled {w t i r : Nat} {cnt most oth bhv : Int32} (hd : 2 ≤ d) (hw : w < 3) (ht : t < 2) (hi : i < 15) (hr : r < 3) (hO : lwOk c fr to) (hL : LawC μ t c fr to) (hb : ¬ μ.1 2 t 8 = 0 → bhC (fun k => μ.1 4 (5 * w + k) 4) (μ.1 8 w 5) (μ.1 2 t 8) (μ.1 4 i 4) = bhv) :
    Ctr l D d yX8_ruled cX8_ruled 7 (some .int) [.ref (D.2.2 8 w), .ref (D.2.2 2 t), .int (nI r), .ref (D.2.2 4 i), .int cnt, .int most, .int oth] μ (pI (fun v μ' => v = rulF (evR c fr to r (nms (μ.1 4 i 1) (μ.1 4 i 0) cnt (μ.1 4 i 2) bhv (μ.1 8 w 1))) most oth ∧ lwFr t μ μ')) := by
  obtain ⟨h1, h2, hcc⟩ := hL.1 r hr
  obtain ⟨o1, o2, o3⟩ := hO r hr
  refine en_X8_ruled (fun Γ => bl_X8_ruled_0 hw ht hi ⟨0, _, by omega, c_X2_isTold ht hr hO hL, ?_⟩)
  rintro v μ1 ⟨rfl, rfl⟩
  by_cases hlt : fr r < to r
  · refine ⟨fun _ => ⟨1, _, by omega, c_X8_setNames (Nat.le_refl 1) hw ht hi hL.2.1, ?_⟩, fun h => by simp [bI, hlt] at h⟩
    rintro μ2 ⟨hF2, hn2⟩
    refine ⟨1, _, by omega, c_X2_workOut (a := fr r) (b := to r) (c := c) (Nat.le_refl 1) ht hr (by omega) (by omega) (by rw [hF2.1]; exact h1) (by rw [hF2.1]; exact h2) (by rw [hF2.1]; exact hcc) hn2 (fun n _ => nms_in _ _ _ _ _ _ n) (o3 hlt), ?_⟩
    rintro v μ3 ⟨hF3, hv⟩
    have hFr : lwFr t μ1 μ3 := hF2.tr (lwFr.ev hF3)
    -- the names that count
    have key : evR c fr to r (nms (μ1.1 4 i 1) (μ1.1 4 i 0) cnt (μ1.1 4 i 2) (bhC (fun k => μ1.1 4 (5 * w + k) 4) (μ1.1 8 w 5) (μ1.1 2 t 8) (μ1.1 4 i 4)) (μ1.1 8 w 1)) = evR c fr to r (nms (μ1.1 4 i 1) (μ1.1 4 i 0) cnt (μ1.1 4 i 2) bhv (μ1.1 8 w 1)) := by
      by_cases hm : μ1.1 2 t 8 = 0
      · refine evR_cong (fun n hn => ?_) hO (hL.2.2 hm) hr
        unfold nms
        simp [hn]
      · rw [hb hm]
    rw [← key]
    simp only [evR, if_pos hlt]
    rcases hv with ⟨rfl, hE⟩ | ⟨rfl, z, hE, hz, -⟩
    · refine ⟨fun z => absurd rfl z, fun _ => ⟨?_, hFr⟩⟩
      rw [hE]
      rfl
    · refine ⟨fun _ => ⟨by omega, by omega, ?_, hFr⟩, fun z => absurd z (by decide)⟩
      rw [hE, hz]
      rfl
  · refine ⟨fun h => absurd (by simp [bI, hlt]) h, fun _ => ⟨?_, lwFr.rf⟩⟩
    simp only [evR, if_neg hlt]
    rfl
theorem c_X8_habitOf {i : Nat} {x1 : Int32} (hd : 1 ≤ d) (hi : i < 15) : Ctr l D d yX8_habitOf cX8_habitOf 2 (some .int) [.ref (D.2.2 4 i), .int x1] μ (pI (fun v μ' => v = dHab (μ.1 4 i 2) x1 (μ.1 4 i 1) ∧ μ' = μ)) := by
  refine en_X8_habitOf (fun Γ => ?_)
  have go1 : ¬ (¬ μ.1 4 i 2 ≤ 0 ∧ μ.1 4 i 2 - μ.1 4 i 2 / 7 * 7 = 0) → pt_X8_habitOf_1 l D d (fun v μ' => v = dHab (μ.1 4 i 2) x1 (μ.1 4 i 1) ∧ μ' = μ) Γ i x1 μ := by
    intro h0
    have go2 : ¬ (μ.1 4 i 2 = 0 ∧ ¬ x1 < 3) → pt_X8_habitOf_2 l D d (fun v μ' => v = dHab (μ.1 4 i 2) x1 (μ.1 4 i 1) ∧ μ' = μ) Γ i μ := by
      intro h1
      refine bl_X8_habitOf_2 hi ⟨?_, rfl⟩
      unfold dHab
      rw [if_neg h0, if_neg h1]
    refine bl_X8_habitOf_1 hi ⟨fun h1 => go2 (fun z => h1 z.1), fun h1 => ⟨fun h2 => go2 (fun z => z.2 h2), fun h2 => ⟨by omega, ?_, rfl⟩⟩⟩
    unfold dHab
    rw [if_neg h0, if_pos ⟨h1, h2⟩]
  refine bl_X8_habitOf_0 hi ⟨fun h => go1 (fun z => z.1 h), fun h => ⟨fun h1 => go1 (fun z => h1 z.2), fun h1 => ⟨by omega, ?_, rfl⟩⟩⟩
  unfold dHab
  rw [if_pos ⟨h, h1⟩]
/-- what a person's day changes -/
def pFr (t i : Nat) (μ μ' : gMem) : Prop := (∀ k j, ¬ (k = 4 ∧ j = i) → μ'.1 k j = μ.1 k j) ∧ μ'.2.2 = μ.2.2 ∧ ∀ k j, ¬ (k = 196 ∧ j = t) → ¬ (k = 197 ∧ j = t) → ¬ (k = 2 ∧ j = t) → μ'.2.1 k j = μ.2.1 k j
theorem pFr.rf {t i : Nat} {μ : gMem} : pFr t i μ μ := ⟨fun _ _ _ => rfl, rfl, fun _ _ _ _ _ => rfl⟩
theorem pFr.put {t i : Nat} {μ μ1 : gMem} (h : pFr t i μ μ1) (j : Nat) (v : Int32) : pFr t i μ (gsI μ1 4 i j v) := ⟨fun k j' a => (gsI_off a).trans (h.1 k j' a), h.2.1, h.2.2⟩
theorem pFr.lw {t i : Nat} {μ μ1 μ2 : gMem} (h : pFr t i μ μ1) (h2 : lwFr t μ1 μ2) : pFr t i μ μ2 := ⟨fun k j a => by rw [h2.1]; exact h.1 k j a, h2.2.1.trans h.2.1, fun k j a b e => (h2.2.2 k j a b e).trans (h.2.2 k j a b e)⟩
theorem pFr.law {t i : Nat} {μ μ1 : gMem} (h : pFr t i μ μ1) (hL : LawC μ t c fr to) : LawC μ1 t c fr to := hL.of (h.1 _ _ (by omega)) (h.1 _ _ (by omega)) (h.1 _ _ (by omega)) (h.1 _ _ (by omega)) (by rw [h.1 2 t (by omega)])
set_option maxHeartbeats 4000000 in
theorem c_X8_passPerson {w t p n : Nat} {wet : Int32} {bh : Int32 → Int32} (hd : 3 ≤ d) (hw : w < 3) (ht : t < 2) (hp : p < 5) (hn : μ.1 7 t 5 = nI n) (hn6 : n ≤ 6) (hO : lwOk c fr to) (hL : LawC μ t c fr to) (hb : ¬ μ.1 2 t 8 = 0 → ∀ s, 0 ≤ s → bhC (fun k => if k = p then s else μ.1 4 (5 * w + k) 4) (μ.1 8 w 5) (μ.1 2 t 8) s = bh s) (h0 : 0 ≤ μ.1 4 (5 * w + p) 4) (h1 : 0 ≤ pDay (fun r cnt row b => evR c fr to r (nms (μ.1 4 (5 * w + p) 1) (μ.1 4 (5 * w + p) 0) cnt row b (μ.1 8 w 1))) bh (psum (μ.1 519 t) (μ.1 331 (5 * w + p)) n) (psum (μ.1 520 t) (μ.1 331 (5 * w + p)) n) (μ.1 516 t p) (μ.1 7 t 14) (μ.1 7 t 15) (μ.1 8 w 7) wet (μ.1 4 (5 * w + p)) 4) :
    Ctr l D d yX8_passPerson cX8_passPerson 10 none [.ref (D.2.2 8 w), .ref (D.2.2 7 t), .int (nI p), .int wet] μ (pV (fun μ' => pFr t (5 * w + p) μ μ' ∧ μ'.1 4 (5 * w + p) = pDay (fun r cnt row b => evR c fr to r (nms (μ.1 4 (5 * w + p) 1) (μ.1 4 (5 * w + p) 0) cnt row b (μ.1 8 w 1))) bh (psum (μ.1 519 t) (μ.1 331 (5 * w + p)) n) (psum (μ.1 520 t) (μ.1 331 (5 * w + p)) n) (μ.1 516 t p) (μ.1 7 t 14) (μ.1 7 t 15) (μ.1 8 w 7) wet (μ.1 4 (5 * w + p)))) := by
  refine en_X8_passPerson (fun Γ => ?_)
  have hi : 5 * w + p < 15 := by omega
  obtain ⟨i, ei⟩ : ∃ i, i = 5 * w + p := ⟨_, rfl⟩
  rw [← ei] at hi h0 h1 ⊢
  obtain ⟨ev, eev⟩ : ∃ ev : Nat → Int32 → Int32 → Int32 → Option Int64, ev = (fun r cnt row b => evR c fr to r (nms (μ.1 4 i 1) (μ.1 4 i 0) cnt row b (μ.1 8 w 1))) := ⟨_, rfl⟩
  rw [← eev] at h1 ⊢
  obtain ⟨q, eq⟩ : ∃ q : gMem → Prop, q = (fun μ' => pFr t i μ μ' ∧ μ'.1 4 i = pDay ev bh (psum (μ.1 519 t) (μ.1 331 i) n) (psum (μ.1 520 t) (μ.1 331 i) n) (μ.1 516 t p) (μ.1 7 t 14) (μ.1 7 t 15) (μ.1 8 w 7) wet (μ.1 4 i)) := ⟨_, rfl⟩
  rw [← eq]
  -- how far behind, with the own sum as it is
  have hbh : ∀ μ1 : gMem, pFr t i μ μ1 → 0 ≤ μ1.1 4 i 4 → ¬ μ1.1 2 t 8 = 0 → bhC (fun k => μ1.1 4 (5 * w + k) 4) (μ1.1 8 w 5) (μ1.1 2 t 8) (μ1.1 4 i 4) = bh (μ1.1 4 i 4) := by
    intro μ1 hF hs0 hm
    rw [hF.1 2 t (by omega)] at hm ⊢
    rw [hF.1 8 w (by omega), ← hb hm (μ1.1 4 i 4) hs0]
    congr 1
    funext k
    by_cases hk : k = p
    · subst hk
      rw [if_pos rfl, ei]
    · rw [if_neg hk, hF.1 4 (5 * w + k) (by omega)]
  -- the end, with what is walked and counted
  have tail : ∀ (w1 c1 : Int32) (μ1 : gMem), pFr t i μ μ1 → μ1.1 4 i = μ.1 4 i → (dEnd ev bh (μ.1 7 t 14) (μ.1 7 t 15) w1 c1 (μ.1 4 i) = pDay ev bh (psum (μ.1 519 t) (μ.1 331 i) n) (psum (μ.1 520 t) (μ.1 331 i) n) (μ.1 516 t p) (μ.1 7 t 14) (μ.1 7 t 15) (μ.1 8 w 7) wet (μ.1 4 i)) → pt_X8_passPerson_2 l D d q Γ w t i w1 c1 μ1 := by
    intro w1 c1 μ1 hF1 hr1 hEnd
    -- behind row and broken
    have at6 : ∀ μ2 : gMem, pFr t i μ μ2 → μ2.1 4 i = (fun j => if j = 7 then dPen (μ.1 7 t 15) c1 (μ.1 7 t 14) (μ.1 4 i 7) else if j = 6 then μ.1 4 i 6 + c1 else if j = 5 then μ.1 4 i 5 + w1 else if j = 3 then dBrk (μ.1 4 i 0) c1 (μ.1 4 i 2) (μ.1 4 i 3) else if j = 2 then dRow (μ.1 4 i 0) c1 (μ.1 4 i 2) else μ.1 4 i j) → pt_X8_passPerson_6 l D d q Γ w t i c1 (μ.1 4 i 2) μ2 := by
      intro μ2 hF2 hr2
      refine bl_X8_passPerson_6 hw ht hi ⟨by omega, 2, _, by omega, c_X8_ruled (r := 2) (Nat.le_refl 2) hw ht hi (by decide) hO (hF2.law hL) (hbh μ2 hF2 (by rw [hr2]; exact h0)), ?_⟩
      rintro v μ3 ⟨rfl, hF3⟩
      have hFa := hF2.lw hF3
      have e1 : rulF (evR c fr to 2 (nms (μ2.1 4 i 1) (μ2.1 4 i 0) c1 (μ2.1 4 i 2) (bh (μ2.1 4 i 4)) (μ2.1 8 w 1))) 999 (imin c1 999) = rulF (ev 2 c1 (dRow (μ.1 4 i 0) c1 (μ.1 4 i 2)) (bh (μ.1 4 i 4))) 999 (imin c1 999) := by
        rw [eev, hr2, hF2.1 8 w (by omega)]
        rfl
      rw [e1]
      rintro μ4 hμ4
      have hF4 : pFr t i μ μ4 := by rw [hμ4]; exact hFa.put _ _
      have hr4 : μ4.1 4 i = (fun j => if j = 4 then μ.1 4 i 4 + rulF (ev 2 c1 (dRow (μ.1 4 i 0) c1 (μ.1 4 i 2)) (bh (μ.1 4 i 4))) 999 (imin c1 999) else μ2.1 4 i j) := by
        rw [hμ4, gsI_row, hF3.1, hr2]
        rfl
      refine ⟨1, _, by omega, c_X8_habitOf (Nat.le_refl 1) hi, ?_⟩
      rintro v μ5 ⟨rfl, rfl⟩
      refine ⟨2, _, by omega, c_X8_ruled (r := 1) (Nat.le_refl 2) hw ht hi (by decide) hO (hF4.law hL) (hbh μ5 hF4 (by rw [hr4]; rw [← hEnd] at h1; exact h1)), ?_⟩
      rintro v μ6 ⟨rfl, hF6⟩
      rintro _ rfl _ rfl
      rw [eq]
      refine ⟨((hF4.lw hF6).put _ _).put _ _, ?_⟩
      rw [← hEnd]
      have e2 : rulF (evR c fr to 1 (nms (μ5.1 4 i 1) (μ5.1 4 i 0) c1 (μ5.1 4 i 2) (bh (μ5.1 4 i 4)) (μ5.1 8 w 1))) 99 (dHab (μ5.1 4 i 2) (μ.1 4 i 2) (μ5.1 4 i 1)) = rulF (ev 1 c1 (dRow (μ.1 4 i 0) c1 (μ.1 4 i 2)) (bh (μ.1 4 i 4 + rulF (ev 2 c1 (dRow (μ.1 4 i 0) c1 (μ.1 4 i 2)) (bh (μ.1 4 i 4))) 999 (imin c1 999)))) 99 (dHab (dRow (μ.1 4 i 0) c1 (μ.1 4 i 2)) (μ.1 4 i 2) (μ.1 4 i 1)) := by
        rw [hr4, hr2, hF4.1 8 w (by omega)]
        simp only [eev]
        rfl
      rw [gsI_row, gsI_row, hF6.1, e2, hr4, hr2]
      funext j
      unfold dEnd
      by_cases j0 : j = 0
      · subst j0; simp
      by_cases j1 : j = 1
      · subst j1; simp
      by_cases j2 : j = 2
      · subst j2; simp
      by_cases j3 : j = 3
      · subst j3; simp
      by_cases j4 : j = 4
      · subst j4; simp
      by_cases j5 : j = 5
      · subst j5; simp
      by_cases j6 : j = 6
      · subst j6; simp
      by_cases j7 : j = 7
      · subst j7; simp
      by_cases j8 : j = 8
      · subst j8; simp
      by_cases j9 : j = 9
      · subst j9; simp
      simp [j0, j1, j2, j3, j4, j5, j6, j7, j8, j9]
    have at5 : ∀ μ2 : gMem, pFr t i μ μ2 → μ2.1 4 i = (fun j => if j = 3 then dBrk (μ.1 4 i 0) c1 (μ.1 4 i 2) (μ.1 4 i 3) else if j = 2 then dRow (μ.1 4 i 0) c1 (μ.1 4 i 2) else μ.1 4 i j) → pt_X8_passPerson_5 l D d q Γ w t i w1 c1 (μ.1 4 i 2) μ2 := by
      intro μ2 hF2 hr2
      refine bl_X8_passPerson_5 hw ht hi ?_
      rintro μ3 hμ3 μ4 hμ4
      have hF4 : pFr t i μ μ4 := by rw [hμ4, hμ3]; exact (hF2.put _ _).put _ _
      have hr4 : μ4.1 4 i = (fun j => if j = 6 then μ.1 4 i 6 + c1 else if j = 5 then μ.1 4 i 5 + w1 else μ2.1 4 i j) := by
        rw [hμ4, gsI_row, hμ3, gsI_row, hr2]
        rfl
      rw [hF4.1 7 t (by omega)]
      refine ⟨fun h7 => at6 μ4 hF4 ?_, fun h7 => ?_⟩
      · rw [hr4, hr2]
        funext j
        by_cases j7 : j = 7
        · subst j7; simp [dPen, h7]
        · simp [j7]
      · rintro _ rfl
        refine at6 _ (hF4.put _ _) ?_
        rw [gsI_row, hr4, hr2]
        funext j
        by_cases j7 : j = 7
        · subst j7; simp [dPen, h7]
        · simp [j7]
    have at3 : ∀ x : Int32, (x = 0 ∧ c1 < μ.1 4 i 0 ∨ x = 1 ∧ ¬ c1 < μ.1 4 i 0) → pt_X8_passPerson_3 l D d q Γ w t i w1 c1 x μ1 := by
      intro x hx
      refine bl_X8_passPerson_3 hw ht hi ?_
      rintro x8 rfl _ rfl
      have at4 : ∀ z : Int32, z = dRow (μ.1 4 i 0) c1 (μ.1 4 i 2) → pt_X8_passPerson_4 l D d q Γ w t i w1 c1 x8 (μ1.1 4 i 2) i z μ1 := by
        intro z hz
        refine bl_X8_passPerson_4 hw ht hi hi ?_
        rintro μ2 hμ2
        have hF2 : pFr t i μ μ2 := by rw [hμ2]; exact hF1.put _ _
        have hr2 : μ2.1 4 i = (fun j => if j = 2 then dRow (μ.1 4 i 0) c1 (μ.1 4 i 2) else μ.1 4 i j) := by rw [hμ2, gsI_row, hr1, hz]
        rw [hr1]
        refine ⟨fun hx0 => at5 μ2 hF2 ?_, fun hx0 => ⟨fun hrow => at5 μ2 hF2 ?_, fun hrow => ?_⟩⟩
        · have h9 : ¬ c1 < μ.1 4 i 0 := by
            rcases hx with ⟨h9, -⟩ | ⟨-, h9⟩
            · exact absurd h9 hx0
            · exact h9
          rw [hr2]
          funext j
          by_cases j3 : j = 3
          · subst j3; simp [dBrk, h9]
          · simp [j3]
        · rw [hr2]
          funext j
          by_cases j3 : j = 3
          · subst j3; simp [dBrk, hrow]
          · simp [j3]
        · have h9 : c1 < μ.1 4 i 0 := by
            rcases hx with ⟨-, h9⟩ | ⟨h9, -⟩
            · exact h9
            · rw [h9] at hx0; exact absurd hx0 (by decide)
          rintro _ rfl
          refine at5 _ (hF2.put _ _) ?_
          rw [gsI_row, hr2]
          funext j
          by_cases j3 : j = 3
          · subst j3; simp [dBrk, hrow, h9]
          · simp [j3]
      refine ⟨fun hx0 => at4 _ ?_, fun hx0 => at4 _ ?_⟩
      · rcases hx with ⟨-, h9⟩ | ⟨h9, -⟩
        · simp [dRow, h9]
        · rw [h9] at hx0; exact absurd hx0 (by decide)
      · rcases hx with ⟨h9, -⟩ | ⟨-, h9⟩
        · exact absurd h9 hx0
        · simp [dRow, h9, hr1]
    refine bl_X8_passPerson_2 hw ht hi ?_
    rw [hr1]
    exact ⟨fun h => at3 0 (Or.inl ⟨rfl, h⟩), fun h => at3 1 (Or.inr ⟨rfl, h⟩)⟩
  -- the beginning
  have head : ∀ x : Int32, x = dGr wet (μ.1 4 i 1) → pt_X8_passPerson_1 l D d q Γ w t (nI p) i x μ := by
    intro x hx
    refine bl_X8_passPerson_1 hw ht hi ?_
    rintro _ rfl
    refine ⟨0, _, by omega, c_X7_inPlan (k1 := 519) (k2 := 331) ht rfl ht rfl hi hn hn6 hn6 (by decide) (by decide), ?_⟩
    rintro v μ1 ⟨rfl, rfl⟩ _ rfl
    refine ⟨1, _, by omega, c_X4_stepsOn (Nat.le_refl 1) hi ht hn hn6, ?_⟩
    rintro v μ2 ⟨rfl, rfl⟩ _ rfl
    rw [hx]
    have nopush : ∀ μ3 : gMem, pFr t i μ2 μ3 → μ3.1 4 i = μ2.1 4 i → ¬ (¬ μ2.1 4 i 0 ≤ dC0 (μ2.1 4 i 10) (dGr wet (μ2.1 4 i 1)) (psum (μ2.1 520 t) (μ2.1 331 i) n) (μ2.1 4 i 9) ∧ ¬ μ2.1 4 i 10 = 0 ∧ μ2.1 8 w 7 = 0 ∧ ¬ dPv ev bh (psum (μ2.1 520 t) (μ2.1 331 i) n) (μ2.1 516 t p) wet (μ2.1 4 i) < μ2.1 4 i 0 - dC0 (μ2.1 4 i 10) (dGr wet (μ2.1 4 i 1)) (psum (μ2.1 520 t) (μ2.1 331 i) n) (μ2.1 4 i 9)) → pt_X8_passPerson_2 l D d q Γ w t i (dGr wet (μ2.1 4 i 1) + psum (μ2.1 519 t) (μ2.1 331 i) n) (dC0 (μ2.1 4 i 10) (dGr wet (μ2.1 4 i 1)) (psum (μ2.1 520 t) (μ2.1 331 i) n) (μ2.1 4 i 9)) μ3 := by
      intro μ3 hF3 hr3 hno
      refine tail _ _ μ3 hF3 hr3 ?_
      unfold pDay dW1 dC1
      rw [if_neg hno, if_neg hno]
    refine ⟨fun g1 => nopush μ2 pFr.rf rfl (fun z => z.1 g1), fun g1 => ⟨fun h2 => nopush μ2 pFr.rf rfl (fun z => z.2.1 h2), fun h2 => ⟨fun h3 => nopush μ2 pFr.rf rfl (fun z => h3 z.2.2.1), fun h3 => ⟨p, hp, rfl, 2, _, by omega, c_X8_ruled (r := 0) (Nat.le_refl 2) hw ht hi (by decide) hO hL (hbh μ2 pFr.rf h0), ?_⟩⟩⟩⟩
    rintro v μ3 ⟨hv, hF3⟩
    have hpv : v = dPv ev bh (psum (μ2.1 520 t) (μ2.1 331 i) n) (μ2.1 516 t p) wet (μ2.1 4 i) := by rw [hv, dPv, eev]
    have hr3 : μ3.1 4 i = μ2.1 4 i := by rw [hF3.1]
    refine ⟨fun h4 => nopush μ3 (pFr.rf.lw hF3) hr3 (fun z => z.2.2.2 (by rw [← hpv]; exact h4)), fun h4 => ?_⟩
    rintro _ rfl _ rfl
    refine tail _ _ μ3 (pFr.rf.lw hF3) hr3 ?_
    rw [hr3]
    have hyes : ¬ μ2.1 4 i 0 ≤ dC0 (μ2.1 4 i 10) (dGr wet (μ2.1 4 i 1)) (psum (μ2.1 520 t) (μ2.1 331 i) n) (μ2.1 4 i 9) ∧ ¬ μ2.1 4 i 10 = 0 ∧ μ2.1 8 w 7 = 0 ∧ ¬ dPv ev bh (psum (μ2.1 520 t) (μ2.1 331 i) n) (μ2.1 516 t p) wet (μ2.1 4 i) < μ2.1 4 i 0 - dC0 (μ2.1 4 i 10) (dGr wet (μ2.1 4 i 1)) (psum (μ2.1 520 t) (μ2.1 331 i) n) (μ2.1 4 i 9) := ⟨g1, h2, h3, by rw [← hpv]; exact h4⟩
    unfold pDay dW1 dC1
    rw [if_pos hyes, if_pos hyes]
  refine bl_X8_passPerson_0 hw ht ⟨p, hp, rfl, ?_⟩
  rw [← ei]
  exact ⟨fun h => head _ (by simp [dGr, h]), fun h => head _ (by simp [dGr, h])⟩
end CP
