/-! days ahead -/
noncomputable def runF (A : wEnv) (wet : Int32) : Nat → Nat → pplS → pplS
  | 0, _, S => S
  | c + 1, dy, S => stp A wet (dy + c) (runF A wet c dy S)
/-- who won the latest pot -/
noncomputable def winF (A : wEnv) (wet : Int32) (w0 : Int32) : Nat → Nat → pplS → Int32
  | 0, _, _ => w0
  | c + 1, dy, S => if dueS A (dy + c) then wnr A wet (dy + c) (runF A wet c dy S) else winF A wet w0 c dy S
def eSet (A : wEnv) (g pl : Int32) (on : Nat → Bool) : wEnv := (A.1, A.2.1, A.2.2.1, A.2.2.2.1, g, pl, on)
def pln (A : wEnv) : Prop := A.2.2.2.2 = (-1, 0, fun _ => true)
theorem pln_set {A : wEnv} (h : pln A) : eSet A (-1) 0 (fun _ => true) = A := by
  obtain ⟨a, b, c, dd, e⟩ := A
  have : e = (-1, 0, fun _ => true) := h
  subst this
  rfl
theorem okS_run {A : wEnv} {e dy : Nat} {S : pplS} {wet : Int32} (hA : okA A) (he : e ≤ 2000) (h : okS A e S dy) : ∀ c, dy + c ≤ 100000 → okS A e (runF A wet c dy S) (dy + c) := by
  intro c
  induction c with
  | zero => intro _; exact h
  | succ c ih =>
    intro hc
    exact okS_stp hA he (by omega) (ih (by omega))
theorem runF_men {A : wEnv} {wet : Int32} {dy : Nat} {S S' : pplS} (h : ∀ k, k < eMen A → S k = S' k) : ∀ c k, k < eMen A → runF A wet c dy S k = runF A wet c dy S' k := by
  intro c
  induction c with
  | zero => exact h
  | succ c ih => exact stp_men ih
theorem winF_men {A : wEnv} {wet w0 : Int32} {dy : Nat} {S S' : pplS} (h : ∀ k, k < eMen A → S k = S' k) : ∀ c, winF A wet w0 c dy S = winF A wet w0 c dy S' := by
  intro c
  induction c with
  | zero => rfl
  | succ c ih =>
    simp only [winF]
    rw [ih, wnr_men (runF_men h c)]
/-- one person alone, where none minds others -/
def lkA (A : wEnv) (b : Int32) (man : Nat) : wEnv := eSet A (-1) 0 (fun p => decide (¬ b = 0 ∨ p = man))
theorem pDay_ev {ev ev' : Nat → Int32 → Int32 → Int32 → Option Int64} {bh bh' : Int32 → Int32} {pr pc pu pn pf pls wet : Int32} {P : Nat → Int32} (h : ∀ r, r < 3 → ∀ cnt row b b', ev r cnt row b = ev' r cnt row b') : pDay ev bh pr pc pu pn pf pls wet P = pDay ev' bh' pr pc pu pn pf pls wet P := by
  have hpv : dPv ev bh pc pu wet P = dPv ev' bh' pc pu wet P := by
    unfold dPv
    rw [h 0 (by omega) _ _ _ (bh' (P 4))]
  unfold pDay
  rw [hpv]
  unfold dEnd
  funext j
  rw [h 1 (by omega) _ _ _ (bh' (P 4 + rulF (ev' 2 (dC1 pc pls wet (dPv ev' bh' pc pu wet P) P) (dRow (P 0) (dC1 pc pls wet (dPv ev' bh' pc pu wet P) P) (P 2)) (bh' (P 4))) 999 (imin (dC1 pc pls wet (dPv ev' bh' pc pu wet P) P) 999))), h 2 (by omega) _ _ _ (bh' (P 4))]
theorem pDay_8 {ev : Nat → Int32 → Int32 → Int32 → Option Int64} {bh : Int32 → Int32} {pr pc pu pn pf pls wet : Int32} {P P' : Nat → Int32} (h : ∀ j, ¬ j = 8 → P j = P' j) : ∀ j, ¬ j = 8 → pDay ev bh pr pc pu pn pf pls wet P j = pDay ev bh pr pc pu pn pf pls wet P' j := by
  intro j hj
  unfold pDay dEnd dPv dW1 dC1
  rw [h 0 (by omega), h 1 (by omega), h 2 (by omega), h 3 (by omega), h 4 (by omega), h 5 (by omega), h 6 (by omega), h 7 (by omega), h 9 (by omega), h 10 (by omega), h j hj]
  simp only [if_neg hj]
theorem look_step {A : wEnv} {man dy : Nat} {wet : Int32} {S1 S : pplS} (hp : pln A) (hA : okA A) (hN : noBh A.1.1 A.1.2.1 A.1.2.2) (hm : man < eMen A) (h : ∀ j, ¬ j = 8 → S1 man j = S man j) : ∀ j, ¬ j = 8 → stp (lkA A 0 man) wet dy S1 man j = stp A wet dy S man j := by
  have hm1 : ∀ j, ¬ j = 8 → midS (lkA A 0 man) wet dy S1 man j = midS A wet dy S man j := by
    obtain ⟨S1', e1, e2⟩ := mid_row (A := lkA A 0 man) (wet := wet) (dy := dy) (S := S1) (k := man) hm
    obtain ⟨S', f1, f2⟩ := mid_row (A := A) (wet := wet) (dy := dy) (S := S) hm
    have on1 : eOn (lkA A 0 man) man := by
      show decide (¬ (0 : Int32) = 0 ∨ man = man) = true
      simp
    have on2 : eOn A man := by
      show A.2.2.2.2.2.2 man = true
      rw [hp]
    rw [e2, f2, if_pos on1, if_pos on2]
    have hg : eGone A = -1 := by show A.2.2.2.2.1 = -1; rw [hp]
    have hpl : A.2.2.2.2.2.1 = 0 := by rw [hp]
    have hev : ∀ (S : pplS) (bh : Int32 → Int32), (∀ j, ¬ j = 8 → S1 man j = S man j) → pDay (fun r cnt row b => evR A.1.1 A.1.2.1 A.1.2.2 r (nms (S1 man 1) (S1 man 0) cnt row b (nI dy))) bh (A.2.2.2.1.1 man) (ePc A man) (A.2.2.2.1.2.2 man) A.2.2.1.1 A.2.2.1.2.1 0 wet (S1 man) = pDay (fun r cnt row b => evR A.1.1 A.1.2.1 A.1.2.2 r (nms (S man 1) (S man 0) cnt row b (nI dy))) (fun s => mxF (fun k => if k = man then s else S' k 4) (eGone A) (eMen A) 0 0 - s) (A.2.2.2.1.1 man) (ePc A man) (A.2.2.2.1.2.2 man) A.2.2.1.1 A.2.2.1.2.1 0 wet (S1 man) := by
      intro S bh hS
      refine pDay_ev (fun r hr cnt row b b' => ?_)
      rw [hS 1 (by omega), hS 0 (by omega)]
      refine evR_cong (fun n hn => ?_) hA.2.2.2.1 hN hr
      unfold nms
      simp [hn]
    have a1 : eSt (lkA A 0 man) wet dy man S1' = pDay (fun r cnt row b => evR A.1.1 A.1.2.1 A.1.2.2 r (nms (S1 man 1) (S1 man 0) cnt row b (nI dy))) (fun s => mxF (fun k => if k = man then s else S1' k 4) (-1) (eMen A) 0 0 - s) (A.2.2.2.1.1 man) (ePc A man) (A.2.2.2.1.2.2 man) A.2.2.1.1 A.2.2.1.2.1 0 wet (S1 man) := by
      unfold eSt stF
      rw [e1]
      rfl
    have a2 : eSt A wet dy man S' = pDay (fun r cnt row b => evR A.1.1 A.1.2.1 A.1.2.2 r (nms (S man 1) (S man 0) cnt row b (nI dy))) (fun s => mxF (fun k => if k = man then s else S' k 4) (eGone A) (eMen A) 0 0 - s) (A.2.2.2.1.1 man) (ePc A man) (A.2.2.2.1.2.2 man) A.2.2.1.1 A.2.2.1.2.1 0 wet (S man) := by
      unfold eSt stF
      rw [f1, hpl]
    rw [a1, a2, hev S _ h]
    exact pDay_8 h
  intro j hj
  unfold stp
  by_cases hd : dueS A dy
  · rw [if_pos hd, if_pos (show dueS (lkA A 0 man) dy from hd)]
    unfold potF
    by_cases h4 : j = 4
    · rw [if_pos h4, if_pos h4]
    · rw [if_neg h4, if_neg h4, if_neg (by omega), if_neg (by omega)]
      exact hm1 j hj
  · rw [if_neg hd, if_neg (show ¬ dueS (lkA A 0 man) dy from hd)]
    exact hm1 j hj
/-- what one sees of a person ahead is the same, be the others walked or not -/
theorem look_run {A : wEnv} {man dy : Nat} {wet b : Int32} {S1 S : pplS} (hp : pln A) (hA : okA A) (hN : b = 0 → noBh A.1.1 A.1.2.1 A.1.2.2) (hm : man < eMen A) (h : ∀ k, k < eMen A → S1 k = S k) : ∀ c j, ¬ j = 8 → runF (lkA A b man) wet c dy S1 man j = runF A wet c dy S man j := by
  by_cases hb : b = 0
  · subst hb
    intro c
    induction c with
    | zero => intro j _; show S1 man j = S man j; rw [h man hm]
    | succ c ih => exact look_step hp hA (hN rfl) hm ih
  · have e : lkA A b man = A := by
      unfold lkA
      rw [← pln_set hp]
      simp [hb, eSet]
    rw [e]
    intro c j _
    rw [runF_men h c man hm]
def dtp (A : wEnv) (dy : Nat) : Nat := eBd A - dy % eBd A
theorem dtp_not {A : wEnv} {dy c : Nat} (hb : 0 < eBd A) (h : c + 1 < dtp A dy) : ¬ dueS A (dy + c) := by
  unfold dtp at h
  intro z
  have h1 := Nat.div_add_mod dy (eBd A)
  have e : dy + c + 1 = (dy % eBd A + c + 1) + eBd A * (dy / eBd A) := by omega
  have z' : (dy + c + 1) % eBd A = 0 := z
  rw [e, Nat.add_mul_mod_self_left, Nat.mod_eq_of_lt (by omega)] at z'
  omega
theorem dtp_due {A : wEnv} {dy : Nat} (hb : 0 < eBd A) : dueS A (dy + (dtp A dy - 1)) := by
  have h0 := Nat.mod_lt dy hb
  have h1 := Nat.div_add_mod dy (eBd A)
  have e : dy + (dtp A dy - 1) + 1 = eBd A * (dy / eBd A + 1) := by unfold dtp; rw [Nat.mul_add]; omega
  show (dy + (dtp A dy - 1) + 1) % eBd A = 0
  rw [e, Nat.mul_mod_right]
theorem dtp_pos {A : wEnv} {dy : Nat} (hb : 0 < eBd A) : 0 < dtp A dy ∧ dtp A dy ≤ eBd A := by
  have h0 := Nat.mod_lt dy hb
  unfold dtp
  omega
/-- who wins the next pot -/
noncomputable def nxt (A : wEnv) (wet : Int32) (dy : Nat) (S : pplS) : Int32 := wnr A wet (dy + (dtp A dy - 1)) (runF A wet (dtp A dy - 1) dy S)
theorem winF_nxt {A : wEnv} {wet w0 : Int32} {dy : Nat} {S : pplS} (hb : 0 < eBd A) : winF A wet w0 (dtp A dy) dy S = nxt A wet dy S := by
  obtain ⟨c, hc⟩ : ∃ c, dtp A dy = c + 1 := ⟨dtp A dy - 1, by have := (dtp_pos (A := A) (dy := dy) hb).1; omega⟩
  have hd := dtp_due (A := A) (dy := dy) hb
  unfold nxt
  rw [hc] at hd ⊢
  simp only [winF, Nat.add_sub_cancel] at hd ⊢
  rw [if_pos hd]
theorem nxt_men {A : wEnv} {wet : Int32} {dy : Nat} {S S' : pplS} (h : ∀ k, k < eMen A → S k = S' k) : nxt A wet dy S = nxt A wet dy S' := wnr_men (runF_men h _)
