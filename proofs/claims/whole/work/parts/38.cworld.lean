/-! the class's world as a value -/
/-- what is told, in place t; n deeds -/
def tC (μ : gMem) (t n : Nat) (A : wEnv) : Prop := μ.1 7 t 0 = nI (eMen A) ∧ μ.1 7 t 5 = nI n ∧ n ≤ 6 ∧ LawC μ t A.1.1 A.1.2.1 A.1.2.2 ∧ μ.1 7 t 13 = nI (eBd A) ∧ (μ.1 7 t 14 = A.2.2.1.1 ∧ μ.1 7 t 15 = A.2.2.1.2.1 ∧ μ.1 7 t 12 = ePot A) ∧ ∀ p, p < eMen A → μ.1 516 t p = A.2.2.2.1.2.2 p
/-- world w -/
def wC (μ : gMem) (t n w : Nat) (A : wEnv) (e : Nat) (S : pplS) (dy : Nat) : Prop := tC μ t n A ∧ okA A ∧ (μ.1 8 w 5 = eGone A ∧ μ.1 8 w 7 = A.2.2.2.2.2.1 ∧ ∀ p, p < eMen A → (eOn A p ↔ ¬ nI p = eGone A ∧ (μ.1 8 w 6 = -1 ∨ μ.1 8 w 6 = nI p))) ∧ (∀ p, p < eMen A → psum (μ.1 519 t) (μ.1 331 (5 * w + p)) n = A.2.2.2.1.1 p ∧ psum (μ.1 520 t) (μ.1 331 (5 * w + p)) n = ePc A p) ∧ ((∀ k, k < 5 → μ.1 4 (5 * w + k) = S k) ∧ jk μ) ∧ okS A e S dy ∧ μ.1 8 w 1 = nI dy
theorem tC.of {μ μ' : gMem} {t n : Nat} {A : wEnv} (h : tC μ t n A) (h1 : μ'.1 7 t = μ.1 7 t) (h2 : μ'.1 192 t = μ.1 192 t) (h3 : μ'.1 193 t = μ.1 193 t) (h4 : μ'.1 194 t = μ.1 194 t) (h5 : μ'.1 195 t = μ.1 195 t) (h6 : μ'.1 2 t 8 = μ.1 2 t 8) (h7 : μ'.1 516 t = μ.1 516 t) : tC μ' t n A := by
  unfold tC
  rw [h1, h7]
  exact ⟨h.1, h.2.1, h.2.2.1, h.2.2.2.1.of h2 h3 h4 h5 h6, h.2.2.2.2⟩
theorem wFr.tC {μ μ' : gMem} {t w n : Nat} {A : wEnv} (hF : wFr t w μ μ') (h : tC μ t n A) : tC μ' t n A := h.of (hF.1 _ _ (by omega) (by omega)) (hF.1 _ _ (by omega) (by omega)) (hF.1 _ _ (by omega) (by omega)) (hF.1 _ _ (by omega) (by omega)) (hF.1 _ _ (by omega) (by omega)) (by rw [hF.1 2 t (by omega) (by omega)]) (hF.1 _ _ (by omega) (by omega))
section CW3
variable {l : Launch} {D : gD} {d : Nat} {μ : gMem}
/-- a day of the class's world -/
theorem d_X8_passDay {t n w e dy : Nat} {A : wEnv} {S : pplS} {wet : Int32} (hd : 5 ≤ d) (hw : w < 3) (ht : t < 2) (h : wC μ t n w A e S dy) (he : e ≤ 2000) (hdy : dy < 100000) :
    Ctr l D d yX8_passDay cX8_passDay 4 none [.ref (D.2.2 8 w), .ref (D.2.2 7 t), .int wet] μ (pV (fun μ' => wFr t w μ μ' ∧ wC μ' t n w A e (stp A wet dy S) (dy + 1) ∧ μ'.1 8 w 2 = (if wet = 0 then μ.1 8 w 2 else μ.1 8 w 2 + 1) ∧ μ'.1 8 w 4 = (if dueS A dy then wnr A wet dy S else μ.1 8 w 4))) := by
  obtain ⟨hT, hA, ⟨hg, hpl, hon⟩, hps, ⟨hr, hjk⟩, hS, hdy1⟩ := h
  have hT' := hT
  obtain ⟨hm, hn, hn6, hL, hbd, ⟨h14, h15, h12⟩, hpu⟩ := hT
  have hs := hS.sum hA he
  have hA' := hA
  obtain ⟨hm5, hbd1, hbd2, hO, hpc⟩ := hA
  have key := c_X8_passDay (l := l) (D := D) (d := d) (μ := μ) (c := A.1.1) (fr := A.1.2.1) (to := A.1.2.2) (t := t) (w := w) (men := eMen A) (n := n) (B := 500000) (dy := dy) (bd := eBd A) (wet := wet) (S := S) (eOn A) hd hw ht hm hm5 hn hn6 hO hL (by omega) hdy1 hdy hbd hbd1 hbd2 (fun p hp => by rw [(hps p hp).2]; exact hpc p hp) (fun p hp => by rw [hg]; exact hon p hp) hr hs
  refine key.mono ?_
  rintro r μ' ⟨⟨rfl⟩, hF, h1, h2, h4, hrow⟩
  have ef : ∀ S, dayF (eOn A) (stF A.1.1 A.1.2.1 A.1.2.2 (eMen A) (μ.1 8 w 5) (nI dy) (μ.1 7 t 14) (μ.1 7 t 15) (μ.1 8 w 7) wet (fun p => psum (μ.1 519 t) (μ.1 331 (5 * w + p)) n) (fun p => psum (μ.1 520 t) (μ.1 331 (5 * w + p)) n) (fun p => μ.1 516 t p)) (eMen A) 0 S = midS A wet dy S := by
    intro S
    refine dayF_cong (eMen A) 0 S (fun p _ hp => ⟨Iff.rfl, fun S => ?_⟩)
    unfold eSt stF
    dsimp only
    rw [(hps p (by omega)).1, (hps p (by omega)).2, hpu p (by omega), hg, hpl, h14, h15]
  rw [ef, hg] at h4
  refine ⟨rfl, hF, ⟨hF.tC hT', hA', ⟨?_, ?_, ?_⟩, ?_, ⟨?_, ?_, ?_⟩, okS_stp hA' he hdy hS, h1⟩, h2, h4⟩
  · rw [hF.2.1 5 (by omega) (by omega) (by omega)]; exact hg
  · rw [hF.2.1 7 (by omega) (by omega) (by omega)]; exact hpl
  · rw [hF.2.1 6 (by omega) (by omega) (by omega)]; exact hon
  · intro p hp
    rw [hF.1 519 t (by omega) (by omega), hF.1 520 t (by omega) (by omega), hF.1 331 (5 * w + p) (by omega) (by omega)]
    exact hps p hp
  · intro k hk
    rw [hrow k hk]
    unfold dayR stp
    rw [ef, hg, h12]
  · intro i j hj
    by_cases hi : 5 * w ≤ i ∧ i < 5 * w + 5
    · obtain ⟨k, rfl, hk⟩ : ∃ k, i = 5 * w + k ∧ k < 5 := ⟨i - 5 * w, by omega, by omega⟩
      have e1 : μ'.1 4 (5 * w + k) j = stp A wet dy S k j := by
        rw [hrow k hk]
        unfold dayR stp
        rw [ef, hg, h12]
      rw [e1, stp_hi (by omega), ← hr k hk]
      exact hjk.1 _ j hj
    · rw [hF.1 4 i (by omega) (by omega)]
      exact hjk.1 i j hj
  · intro i j hj
    rw [hF.1 331 i (by omega) (by omega)]
    exact hjk.2 i j hj
end CW3
