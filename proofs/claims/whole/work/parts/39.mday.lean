/-! the reference's day -/
def mwFr (m : Nat) (μ μ' : gMem) : Prop := (∀ k j, ¬ (737 ≤ k ∧ k ≤ 750 ∧ j = 0) → ¬ (k = 10 ∧ j = 0) → μ'.1 k j = μ.1 k j) ∧ (∀ k, 740 ≤ k → k ≤ 750 → ∀ z, ¬ (5 * m ≤ z ∧ z < 5 * m + 5) → μ'.1 k 0 z = μ.1 k 0 z) ∧ (∀ k, 737 ≤ k → k ≤ 739 → ∀ z, ¬ z = m → μ'.1 k 0 z = μ.1 k 0 z) ∧ μ'.1 747 0 = μ.1 747 0 ∧ (∀ j, ¬ j = 32 → ¬ j = 48 → μ'.1 10 0 j = μ.1 10 0 j) ∧ μ'.2.2 = μ.2.2 ∧ ∀ k j, ¬ (k = 734 ∧ j = 0) → ¬ (k = 735 ∧ j = 0) → μ'.2.1 k j = μ.2.1 k j
theorem mwFr.rf {m : Nat} {μ : gMem} : mwFr m μ μ := ⟨fun _ _ _ _ => rfl, fun _ _ _ _ _ => rfl, fun _ _ _ _ _ => rfl, rfl, fun _ _ _ => rfl, rfl, fun _ _ _ _ => rfl⟩
theorem mwFr.tr {m : Nat} {μ μ1 μ2 : gMem} (h : mwFr m μ μ1) (h2 : mwFr m μ1 μ2) : mwFr m μ μ2 := ⟨fun k j a b => (h2.1 k j a b).trans (h.1 k j a b), fun k a b z c => (h2.2.1 k a b z c).trans (h.2.1 k a b z c), fun k a b z c => (h2.2.2.1 k a b z c).trans (h.2.2.1 k a b z c), h2.2.2.2.1.trans h.2.2.2.1, fun j a b => (h2.2.2.2.2.1 j a b).trans (h.2.2.2.2.1 j a b), h2.2.2.2.2.2.1.trans h.2.2.2.2.2.1, fun k j a b => (h2.2.2.2.2.2.2 k j a b).trans (h.2.2.2.2.2.2 k j a b)⟩
theorem mwFr.per {m p : Nat} {μ μ1 μ2 : gMem} (hp : p < 5) (h : mwFr m μ μ1) (h2 : mpFr (5 * m + p) μ1 μ2) (hb : PM μ2 (5 * m + p) 10 = PM μ1 (5 * m + p) 10) : mwFr m μ μ2 := by
  refine h.tr ⟨fun k j a b => h2.1 k j (by omega) b, fun k a b z c => h2.2.1 k a b z (by omega), fun k a b z c => by rw [h2.1 k 0 (by omega) (by omega)], ?_, fun j a b => h2.2.2.1 j a, h2.2.2.2.1, h2.2.2.2.2⟩
  funext z
  by_cases hz : z = 5 * m + p
  · subst hz; exact hb
  · exact h2.2.1 747 (by omega) (by omega) z hz
theorem mwFr.put {m p k : Nat} {μ μ1 : gMem} (hp : p < 5) (h : mwFr m μ μ1) (h1 : 740 ≤ k) (h2 : k ≤ 750) (h3 : ¬ k = 747) (v : Int32) : mwFr m μ (gsI μ1 k 0 (5 * m + p) v) := by
  refine h.tr ⟨fun k' j a b => gsI_off (by omega), fun k' a b z c => ?_, fun k' a b z c => ?_, gsI_off (by omega), fun j a b => by rw [gsI_off (by omega)], rfl, fun _ _ _ _ => rfl⟩
  · show u3 μ1.1 k 0 (5 * m + p) v k' 0 z = _
    rw [u3, if_neg (by omega)]
  · rw [gsI_off (by omega)]
theorem mwFr.day {m k : Nat} {μ μ1 : gMem} (h : mwFr m μ μ1) (h1 : 737 ≤ k) (h2 : k ≤ 739) (v : Int32) : mwFr m μ (gsI μ1 k 0 m v) := by
  refine h.tr ⟨fun k' j a b => gsI_off (by omega), fun k' a b z c => ?_, fun k' a b z c => ?_, gsI_off (by omega), fun j a b => by rw [gsI_off (by omega)], rfl, fun _ _ _ _ => rfl⟩
  · rw [gsI_off (by omega)]
  · show u3 μ1.1 k 0 m v k' 0 z = _
    rw [u3, if_neg (by omega)]
theorem mwFr.win {m : Nat} {μ μ1 : gMem} (h : mwFr m μ μ1) (v : Int32) : mwFr m μ (gsI μ1 10 0 48 v) := by
  refine h.tr ⟨fun k' j a b => gsI_off (by omega), fun k' a b z c => by rw [gsI_off (by omega)], fun k' a b z c => by rw [gsI_off (by omega)], gsI_off (by omega), fun j a b => ?_, rfl, fun _ _ _ _ => rfl⟩
  show u3 μ1.1 10 0 48 v 10 0 j = _
  rw [u3, if_neg (by omega)]
/-- what is told, as the reference holds it -/
def tM (μ : gMem) (n : Nat) (A : wEnv) : Prop := μ.1 707 0 0 = nI (eMen A) ∧ μ.1 707 0 1 = nI n ∧ n ≤ 6 ∧ LawM μ A.1.1 A.1.2.1 A.1.2.2 ∧ μ.1 707 0 4 = nI (eBd A) ∧ (μ.1 707 0 5 = A.2.2.1.1 ∧ μ.1 707 0 6 = A.2.2.1.2.1 ∧ μ.1 707 0 3 = ePot A) ∧ ∀ p, p < eMen A → μ.1 711 0 p = A.2.2.2.1.2.2 p
def wM (μ : gMem) (n m : Nat) (A : wEnv) (e : Nat) (S : pplS) (dy : Nat) : Prop := tM μ n A ∧ okA A ∧ (gnM μ = eGone A ∧ plM μ = A.2.2.2.2.2.1 ∧ ∀ p, p < eMen A → (eOn A p ↔ ¬ nI p = eGone A)) ∧ (∀ p, p < eMen A → prM μ m p 713 n = A.2.2.2.1.1 p ∧ prM μ m p 714 n = ePc A p) ∧ (∀ k, k < eMen A → peM μ (5 * m + k) = S k ∧ (μ.1 747 0 (5 * m + k) = 0 ∨ μ.1 747 0 (5 * m + k) = 1)) ∧ okS A e S dy ∧ μ.1 737 0 m = nI dy
theorem tM.of {μ μ' : gMem} {n : Nat} {A : wEnv} (h : tM μ n A) (h1 : μ'.1 707 0 = μ.1 707 0) (h2 : μ'.1 711 0 = μ.1 711 0) (h3 : μ'.1 717 0 = μ.1 717 0) (h4 : μ'.1 718 0 = μ.1 718 0) (h5 : μ'.1 719 0 = μ.1 719 0) (h6 : μ'.1 720 0 = μ.1 720 0) : tM μ' n A := by
  unfold tM
  rw [h1, h2]
  exact ⟨h.1, h.2.1, h.2.2.1, h.2.2.2.1.of h3 h4 h5 h6, h.2.2.2.2⟩
theorem mwFr.tM {μ μ' : gMem} {m n : Nat} {A : wEnv} (hF : mwFr m μ μ') (h : tM μ n A) : tM μ' n A := h.of (hF.1 _ _ (by omega) (by omega)) (hF.1 _ _ (by omega) (by omega)) (hF.1 _ _ (by omega) (by omega)) (hF.1 _ _ (by omega) (by omega)) (hF.1 _ _ (by omega) (by omega)) (hF.1 _ _ (by omega) (by omega))
theorem mwFr.gn {μ μ' : gMem} {m : Nat} (hF : mwFr m μ μ') : gnM μ' = gnM μ := by unfold gnM; rw [hF.2.2.2.2.1 51 (by omega) (by omega), hF.2.2.2.2.1 52 (by omega) (by omega)]
theorem mwFr.pl {μ μ' : gMem} {m : Nat} (hF : mwFr m μ μ') : plM μ' = plM μ := by unfold plM; rw [hF.2.2.2.2.1 51 (by omega) (by omega)]
theorem mwFr.pr {μ μ' : gMem} {m w p k n : Nat} (hF : mwFr m μ μ') (hk : k < 737) (hk2 : ¬ k = 10) : prM μ' w p k n = prM μ w p k n := by unfold prM; rw [hF.2.2.2.2.1 51 (by omega) (by omega), hF.1 k 0 (by omega) (by omega), hF.1 751 0 (by omega) (by omega)]
theorem PM_cong {μ μ' : gMem} {i i' : Nat} (h : ∀ k, 740 ≤ k → k ≤ 750 → μ'.1 k 0 i = μ.1 k 0 i') : PM μ' i = PM μ i' := by
  funext j
  unfold PM
  by_cases hj : j ≤ 10
  · have := mkk_rng j (by omega)
    rw [if_pos hj, if_pos hj, h (mkk j) this.1 this.2]
  · rw [if_neg hj, if_neg hj]
theorem peM_cong {μ μ' : gMem} {i i' : Nat} (h : ∀ k, 740 ≤ k → k ≤ 750 → μ'.1 k 0 i = μ.1 k 0 i') (h51 : μ'.1 10 0 51 = μ.1 10 0 51) : peM μ' i = peM μ i' := by
  funext j
  unfold peM bnM
  rw [PM_cong h, h51, h 747 (by omega) (by omega)]
theorem mwFr.pe {μ μ' : gMem} {m i : Nat} (hF : mwFr m μ μ') (h : ¬ (5 * m ≤ i ∧ i < 5 * m + 5)) : peM μ' i = peM μ i := peM_cong (fun k h1 h2 => hF.2.1 k h1 h2 i h) (hF.2.2.2.2.1 51 (by omega) (by omega))
section MD
variable {l : Launch} {D : gD} {d : Nat} {μ : gMem}
theorem leader_loop {Γ : gC} {q : Int32 → gMem → Prop} {m men : Nat} (hd : 0 < d) (hm : μ.1 707 0 0 = nI men) (hm5 : men ≤ 5) (hw : m < 23) (hq : q (onI (ldF (fun k => μ.1 744 0 (5 * m + k)) (gnM μ) men 0 none)) μ) :
    ∀ (n j : Nat) (b : Option Nat), j + n = men → (∀ k, b = some k → k < j) → ldF (fun k => μ.1 744 0 (5 * m + k)) (gnM μ) n j b = ldF (fun k => μ.1 744 0 (5 * m + k)) (gnM μ) men 0 none → pt_X10_leader_1 l D d q Γ 0 (nI m) (onI b) (nI j) μ := by
  intro n
  induction n with
  | zero =>
    intro j b hj hb ha
    refine bl_X10_leader_1 (by decide) ⟨fun _ => ?_, fun h => ?_⟩
    · rw [show b = ldF (fun k => μ.1 744 0 (5 * m + k)) (gnM μ) men 0 none from ha]
      exact hq
    · rw [hm, show j = men by omega] at h
      exact absurd (nI_le (Nat.le_refl _) (by omega)) h
  | succ n ih =>
    intro j b hj hb ha
    have nx : ∀ b', (∀ k, b' = some k → k < j + 1) → ldF (fun k => μ.1 744 0 (5 * m + k)) (gnM μ) n (j + 1) b' = ldF (fun k => μ.1 744 0 (5 * m + k)) (gnM μ) men 0 none → pt_X10_leader_3 l D d q Γ 0 (nI m) (onI b') (nI j) μ := by
      intro b' hb' ha'
      refine bl_X10_leader_3 (by decide) ?_
      rintro _ rfl
      rw [nI_1]
      exact ih (j + 1) b' (by omega) hb' ha'
    refine bl_X10_leader_1 (by decide) ⟨fun h => ?_, fun _ => ⟨hd, fun hg => ?_, fun hg => ?_⟩⟩
    · rw [hm] at h
      exact absurd h (nI_ge (by omega) (by omega))
    · rw [isThere_iff (by omega)] at hg
      refine nx b (fun k hk => by have := hb k hk; omega) ?_
      simp only [ldF, if_pos hg] at ha
      exact ha
    · rw [isThere_iff (by omega)] at hg
      simp only [ldF, if_neg hg] at ha
      have set : ldF (fun k => μ.1 744 0 (5 * m + k)) (gnM μ) n (j + 1) (some j) = ldF (fun k => μ.1 744 0 (5 * m + k)) (gnM μ) men 0 none → pt_X10_leader_2 l D d q Γ 0 (nI m) (nI j) μ := by
        intro h9
        refine bl_X10_leader_2 (by decide) ?_
        rintro _ rfl
        exact nx (some j) (fun k hk => by cases hk; omega) h9
      cases b with
      | none => exact ⟨fun _ => set ha, fun h => absurd rfl h⟩
      | some k =>
        have hk := hb k rfl
        refine ⟨fun h => absurd h (nI_nm1 (by omega)), fun _ => ⟨5 * m + j, by omega, ix5 m j, 5 * m + k, by omega, ix5 m k, fun h => ?_, fun h => ?_⟩⟩
        · refine nx (some k) (fun z hz => by cases hz; omega) ?_
          simp only [if_pos h] at ha
          exact ha
        · refine set ?_
          simp only [if_neg h] at ha
          exact ha
theorem c_X10_leader {m men : Nat} (hd : 0 < d) (hm : μ.1 707 0 0 = nI men) (hm5 : men ≤ 5) (hw : m < 23) : Ctr l D d yX10_leader cX10_leader 4 (some .int) [.ref (D.2.2 10 0), .int (nI m)] μ (pI (fun v μ' => v = onI (ldF (fun k => μ.1 744 0 (5 * m + k)) (gnM μ) men 0 none) ∧ μ' = μ)) := by
  refine en_X10_leader (fun Γ => bl_X10_leader_0 (by decide) ?_)
  rintro _ rfl _ rfl
  exact leader_loop hd hm hm5 hw ⟨rfl, rfl⟩ men 0 none (by omega) (fun k hk => by cases hk) rfl
set_option maxHeartbeats 4000000 in
theorem passes_loop {Γ : gC} {q : gMem → Prop} {n m e dy : Nat} {A : wEnv} {S0 F : pplS} {μ0 : gMem} {wet : Int32} (hd : 5 ≤ d) (hw : m < 23) (h0 : wM μ0 n m A e S0 dy) (hdy : dy < 100000)
    (hend : ∀ μ', mwFr m μ0 μ' → (∀ k, 737 ≤ k → k ≤ 739 → μ'.1 k 0 = μ0.1 k 0) → (∀ k, k < eMen A → peM μ' (5 * m + k) = F k) → pt_X10_passes_6 l D d q Γ 0 (nI m) wet (nI (eMen A)) μ') :
    ∀ (c j : Nat) (μ : gMem) (S : pplS), j + c = eMen A → mwFr m μ0 μ → (∀ k, 737 ≤ k → k ≤ 739 → μ.1 k 0 = μ0.1 k 0) → (∀ k, k < eMen A → peM μ (5 * m + k) = S k) → (∀ k, j ≤ k → k < eMen A → S k = S0 k) → (∀ k, k < eMen A → dayF (eOn A) (eSt A wet dy) c j S k = F k) → pt_X10_passes_6 l D d q Γ 0 (nI m) wet (nI j) μ := by
  obtain ⟨hT, hA, ⟨hg, hpl, hon⟩, hps, hr0, hS, hdy1⟩ := h0
  have hT' := hT
  obtain ⟨hm, hn, hn6, hL, hbd, ⟨h5, h6, h3⟩, hpu⟩ := hT
  have hm5 := hA.1
  intro c
  induction c with
  | zero =>
    intro j μ S hj hF h7 hr _ hd9
    rw [show j = eMen A by omega]
    exact hend μ hF h7 (fun k hk => by rw [hr k hk, ← hd9 k hk]; rfl)
  | succ c ih =>
    intro j μ S hj hF h7 hr hun hd9
    have hT2 := hF.tM hT'
    have hj5 : j < eMen A := by omega
    refine bl_X10_passes_6 (by decide) ⟨fun h => ?_, fun _ => ⟨by omega, fun hg2 => ?_, fun hg2 => ?_⟩⟩
    · rw [hT2.1] at h
      exact absurd h (nI_ge hj5 (by omega))
    · rw [isThere_iff (by omega), hF.gn, hg] at hg2
      have hno : ¬ eOn A j := fun z => (hon j hj5).mp z hg2
      refine bl_X10_passes_7 (by decide) ?_
      rintro _ rfl
      rw [nI_1]
      refine ih (j + 1) μ S (by omega) hF h7 hr (fun k h1 h2 => hun k (by omega) h2) (fun k hk => ?_)
      rw [← hd9 k hk]
      simp only [dayF, if_neg hno]
    · rw [isThere_iff (by omega), hF.gn, hg] at hg2
      have hyes : eOn A j := (hon j hj5).mpr hg2
      have hrj := hr j hj5
      have hSj := hS.1 j hj5
      have hband : μ.1 747 0 (5 * m + j) = 0 ∨ μ.1 747 0 (5 * m + j) = 1 := by rw [hF.2.2.2.1]; exact (hr0 j hj5).2
      have hrow : μ.1 742 0 (5 * m + j) = S j 2 := by rw [← hrj]; rfl
      refine ⟨4, _, by omega, c_X10_walks (c := A.1.1) (fr := A.1.2.1) (to := A.1.2.2) (men := eMen A) (n := n) (by omega) hw (by omega) hT2.1 hm5 hT2.2.1 hn6 hA.2.2.2.1 hT2.2.2.2.1 hband ?_, ?_⟩
      · rw [hrow, hun j (Nat.le_refl j) hj5]
        omega
      · rintro μ2 ⟨hF2, hP⟩
        have hb10 : PM μ2 (5 * m + j) 10 = PM μ (5 * m + j) 10 := by rw [hP 10, if_pos rfl]
        have hF3 : mwFr m μ0 μ2 := hF.per (by omega) hF2 hb10
        have hP1 : PM μ (5 * m + j) 1 = S j 1 := by rw [← hrj]; rfl
        have hP0 : PM μ (5 * m + j) 0 = S j 0 := by rw [← hrj]; rfl
        have hself : peM μ2 (5 * m + j) = eSt A wet dy j S := by
          have hev : evM μ A.1.1 A.1.2.1 A.1.2.2 m (5 * m + j) = fun r cnt row b => evR A.1.1 A.1.2.1 A.1.2.2 r (nms (S j 1) (S j 0) cnt row b (nI dy)) := by
            unfold evM
            rw [hP1, hP0, h7 737 (by omega) (by omega), hdy1]
          have hbh : bhM μ m j (eMen A) = fun s => mxF (fun k => if k = j then s else S k 4) (eGone A) (eMen A) 0 0 - s := by
            unfold bhM
            funext s
            rw [hF.gn, hg, mxF_cong (m := eMen A) (g := fun k => if k = j then s else S k 4) (eMen A) 0 0 (by omega) (fun k hk => ?_)]
            by_cases hkj : k = j
            · rw [if_pos hkj, if_pos hkj]
            · rw [if_neg hkj, if_neg hkj, ← hr k hk]; rfl
          have hfull : pDay (evM μ A.1.1 A.1.2.1 A.1.2.2 m (5 * m + j)) (bhM μ m j (eMen A)) (prM μ m j 713 n) (prM μ m j 714 n) (μ.1 711 0 j) (μ.1 707 0 5) (μ.1 707 0 6) (plM μ) wet (peM μ (5 * m + j)) = eSt A wet dy j S := by
            rw [hev, hbh, hF.pr (by omega) (by omega), hF.pr (by omega) (by omega), (hps j hj5).1, (hps j hj5).2, hT2.2.2.2.2.2.2 j (by omega), hT2.2.2.2.2.2.1.1, hT2.2.2.2.2.2.1.2.1, hF.pl, hpl, hrj]
            rfl
          rw [hfull] at hP
          funext z
          by_cases hz : z = 10
          · subst hz
            have e1 : eSt A wet dy j S 10 = S j 10 := rfl
            rw [e1, ← hrj]
            show bnM μ2 (5 * m + j) = bnM μ (5 * m + j)
            unfold bnM
            rw [hF2.2.2.1 51 (by omega)]
            have e2 : μ2.1 747 0 (5 * m + j) = μ.1 747 0 (5 * m + j) := hb10
            rw [e2]
          · have := hP z
            rw [if_neg hz] at this
            rw [← this]
            show (if z = 10 then _ else _) = _
            rw [if_neg hz]
        refine bl_X10_passes_7 (by decide) ?_
        rintro _ rfl
        rw [nI_1]
        refine ih (j + 1) μ2 (fun k => if k = j then eSt A wet dy j S else S k) (by omega) hF3 (fun k h1 h2 => by rw [hF2.1 k 0 (by omega) (by omega)]; exact h7 k h1 h2) (fun k hk => ?_) (fun k h1 h2 => ?_) (fun k hk => ?_)
        · by_cases hkj : k = j
          · subst hkj
            rw [if_pos rfl]
            exact hself
          · rw [if_neg hkj, ← hr k hk]
            exact peM_cong (fun z h1 h2 => hF2.2.1 z h1 h2 _ (by omega)) (hF2.2.2.1 51 (by omega))
        · rw [if_neg (by omega)]
          exact hun k (by omega) h2
        · rw [← hd9 k hk]
          simp only [dayF, if_pos hyes]
end MD
