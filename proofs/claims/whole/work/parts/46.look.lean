/-! one person ahead: the class -/
def setS (S : pplS) (man j : Nat) (v : Int32) : pplS := fun k z => if k = man ∧ z = j then v else S k z
theorem setS_s {S : pplS} {man j : Nat} {v : Int32} : setS S man j v man j = v := if_pos ⟨rfl, rfl⟩
theorem setS_o {S : pplS} {man j k z : Nat} {v : Int32} (h : ¬ (k = man ∧ z = j)) : setS S man j v k z = S k z := if_neg h
theorem setS_r {S : pplS} {man j k : Nat} {v : Int32} (h : ¬ k = man) : setS S man j v k = S k := funext fun z => setS_o (fun q => h q.1)
theorem setS_m {S : pplS} {man j : Nat} {v : Int32} : setS S man j v man = fun z => if z = j then v else S man z := by
  funext z
  unfold setS
  by_cases h : z = j <;> simp [h]
theorem okS_set {A : wEnv} {e e' dy man j : Nat} {S : pplS} {v : Int32} (h : okS A e S dy) (he : e ≤ e') (hm : man < eMen A) (hj : j ≤ 10) (h0 : j = 0 ∨ j = 1 → 0 ≤ v.toInt ∧ v.toInt ≤ 99) (h9 : j = 9 → 0 ≤ v.toInt ∧ v.toInt ≤ 2000) (h2 : j = 2 → 0 ≤ v.toInt ∧ v.toInt ≤ dy) (h4 : j = 4 → 0 ≤ v.toInt ∧ v.toInt ≤ ((999 * (dy % eBd A) + e' : Nat) : Int)) (h10 : j = 10 → v = 0 ∨ v = 1) : okS A e' (setS S man j v) dy := by
  refine ⟨fun p hp => ?_, fun k hk => ?_, fun k h1 h2 => ?_, fun k hk => ?_⟩
  · have hh := h.1 p hp
    by_cases hpm : p = man
    · subst hpm
      refine ⟨⟨?_, ?_, ?_⟩, ?_⟩
      · by_cases q : j = 0
        · subst q; rw [setS_s]; exact h0 (Or.inl rfl)
        · rw [setS_o (by omega)]; exact hh.1.1
      · by_cases q : j = 1
        · subst q; rw [setS_s]; exact h0 (Or.inr rfl)
        · rw [setS_o (by omega)]; exact hh.1.2.1
      · by_cases q : j = 9
        · subst q; rw [setS_s]; exact h9 rfl
        · rw [setS_o (by omega)]; exact hh.1.2.2
      · by_cases q : j = 2
        · subst q; rw [setS_s]; exact h2 rfl
        · rw [setS_o (by omega)]; exact hh.2
    · rw [setS_r hpm]; exact hh
  · have hh := h.2.1 k hk
    by_cases q : k = man ∧ j = 4
    · obtain ⟨rfl, rfl⟩ := q
      rw [setS_s]; exact h4 rfl
    · rw [setS_o (by omega)]; omega
  · rw [setS_o (by omega)]; exact h.2.2.1 k h1 h2
  · by_cases q : k = man ∧ j = 10
    · obtain ⟨rfl, rfl⟩ := q
      rw [setS_s]; exact h10 rfl
    · rw [setS_o (by omega)]; exact h.2.2.2 k hk
theorem wC_set {μ : gMem} {t n e e' dy man j : Nat} {A : wEnv} {S : pplS} {v : Int32} (h : wC μ t n 2 A e S dy) (hj : j ≤ 10) (hm : man < 5) (hS : okS A e' (setS S man j v) dy) : wC (gsI μ 4 (10 + man) j v) t n 2 A e' (setS S man j v) dy := by
  obtain ⟨hT, hA, ⟨hg, hpl, hon⟩, hps, ⟨hr, hjk⟩, _, hdy⟩ := h
  have g : ∀ k i, ¬ k = 4 → (gsI μ 4 (10 + man) j v).1 k i = μ.1 k i := fun k i hk => gsI_off (by omega)
  refine ⟨hT.of (g _ _ (by omega)) (g _ _ (by omega)) (g _ _ (by omega)) (g _ _ (by omega)) (g _ _ (by omega)) (by rw [g _ _ (by omega)]) (g _ _ (by omega)), hA, ⟨by rw [g 8 2 (by omega)]; exact hg, by rw [g 8 2 (by omega)]; exact hpl, by rw [g 8 2 (by omega)]; exact hon⟩, fun p hp => ?_, ⟨fun k hk => ?_, fun i z hz => ?_, fun i z hz => ?_⟩, hS, by rw [g 8 2 (by omega)]; exact hdy⟩
  · rw [g _ _ (by omega), g _ _ (by omega), g _ _ (by omega)]; exact hps p hp
  · by_cases hk2 : k = man
    · subst hk2
      rw [gsI_row, setS_m, hr k hk]
    · rw [gsI_off (by omega), setS_r hk2]; exact hr k hk
  · rw [gsI_at, if_neg (by omega)]; exact hjk.1 i z hz
  · rw [gsI_at, if_neg (by omega)]; exact hjk.2 i z hz
/-- what is seen of a person where others may be left out -/
def lkR (A : wEnv) (b : Int32) (man : Nat) (S1 S : pplS) : Prop := (¬ b = 0 → ∀ k, k < eMen A → S1 k = S k) ∧ (b = 0 → ∀ j, ¬ j = 8 → S1 man j = S man j)
theorem lkR.at {A : wEnv} {b : Int32} {man : Nat} {S1 S : pplS} (h : lkR A b man S1 S) (hm : man < eMen A) {j : Nat} (hj : ¬ j = 8) : S1 man j = S man j := by
  by_cases hb : b = 0
  · exact h.2 hb j hj
  · rw [h.1 hb man hm]
theorem lkR.set {A : wEnv} {b v : Int32} {man j : Nat} {S1 S : pplS} (h : lkR A b man S1 S) : lkR A b man (setS S1 man j v) (setS S man j v) := by
  refine ⟨fun hb k hk => ?_, fun hb z hz => ?_⟩
  · unfold setS
    rw [h.1 hb k hk]
  · unfold setS
    rw [h.2 hb z hz]
theorem lkA_b {A : wEnv} {b : Int32} {man : Nat} (hp : pln A) (hb : ¬ b = 0) : lkA A b man = A := by
  unfold lkA
  rw [← pln_set hp]
  simp [hb, eSet]
theorem lkR.run {A : wEnv} {b : Int32} {man dy : Nat} {wet : Int32} {S1 S : pplS} (h : lkR A b man S1 S) (hp : pln A) (hA : okA A) (hN : b = 0 → noBh A.1.1 A.1.2.1 A.1.2.2) (hm : man < eMen A) : ∀ c, lkR A b man (runF (lkA A b man) wet c dy S1) (runF A wet c dy S) := by
  intro c
  refine ⟨fun hb k hk => ?_, fun hb => ?_⟩
  · rw [lkA_b hp hb]
    exact runF_men (h.1 hb) c k hk
  · subst hb
    induction c with
    | zero => exact h.2 rfl
    | succ c ih => exact look_step hp hA (hN rfl) hm ih
/-- the class's trial world, seen for one person -/
def lkC (μ : gMem) (t n : Nat) (A : wEnv) (b : Int32) (man : Nat) (S : pplS) (dy : Nat) : Prop := okS A 0 S dy ∧ ∃ S1, wC μ t n 2 (lkA A b man) 0 S1 dy ∧ lkR A b man S1 S
theorem lkC.at {μ : gMem} {t n man dy j : Nat} {A : wEnv} {b : Int32} {S : pplS} (h : lkC μ t n A b man S dy) (hm : man < eMen A) (h5 : eMen A ≤ 5) (hj : ¬ j = 8) : μ.1 4 (10 + man) j = S man j := by
  obtain ⟨S1, h1, h2⟩ := h.2
  have := h1.2.2.2.2.1.1 man (by omega)
  rw [← h2.at hm hj, ← this]
theorem lkC.jk {μ : gMem} {t n man dy : Nat} {A : wEnv} {b : Int32} {S : pplS} (h : lkC μ t n A b man S dy) : jk μ := by
  obtain ⟨S1, h1, h2⟩ := h.2
  exact h1.2.2.2.2.1.2
theorem nC.nobh {μ : gMem} {t n dy : Nat} {A : wEnv} {S : pplS} (h : nC μ t n A S dy) : μ.1 2 t 8 = 0 → noBh A.1.1 A.1.2.1 A.1.2.2 := h.2.2.1.1.2.2.2.1.2.2
theorem lkC.set {μ : gMem} {t n man dy j : Nat} {A : wEnv} {b v : Int32} {S : pplS} (h : lkC μ t n A b man S dy) (hm : man < eMen A) (h5 : eMen A ≤ 5) (hj : j = 0 ∧ 0 ≤ v.toInt ∧ v.toInt ≤ 99 ∨ j = 10 ∧ (v = 0 ∨ v = 1)) : lkC (gsI μ 4 (10 + man) j v) t n A b man (setS S man j v) dy := by
  obtain ⟨h0, S1, h1, h2⟩ := h
  have h10 : j = 10 → v = 0 ∨ v = 1 := by
    intro q
    rcases hj with z | z
    · omega
    · exact z.2
  have ok : ∀ (A : wEnv) (S : pplS), okS A 0 S dy → man < eMen A → okS A 0 (setS S man j v) dy := fun A S hS hm => okS_set hS (Nat.le_refl 0) hm (by omega) (by omega) (by omega) (by omega) (by omega) h10
  exact ⟨ok A S h0 hm, setS S1 man j v, wC_set h1 (by omega) (by omega) (ok (lkA A b man) S1 h1.2.2.2.2.2.1 hm), h2.set⟩
section LK
variable {l : Launch} {D : gD} {d : Nat} {μ : gMem} {t n dy : Nat} {A : wEnv} {S : pplS}
theorem k_lookAhead {man : Nat} {x1 : Int32} (hx : x1 = nI man) (hd : 3 ≤ d) (h : nC μ t n A S dy) (hm : man < eMen A) : Ctr l D d yX9_lookAhead cX9_lookAhead 2 (some (.object "WristGoal$Person")) [.ref (D.2.2 9 0), .int x1] μ (pR D 4 (fun v μ' => v = 10 + man ∧ cqF μ μ' ∧ nC μ' t n A S dy ∧ lkC μ' t n A (μ.1 2 t 8) man S dy)) := by
  refine (c_X9_lookAhead hx hd h hm).mono ?_
  rintro r μ' ⟨v, hv, hr, h1, h2, h3, h4⟩
  exact ⟨v, hv, hr, h1, h2, h3, h.2.2.1.2.2.2.2.2.1, S, h4, ⟨fun _ _ _ => rfl, fun _ _ _ => rfl⟩⟩
theorem k_pass {man m dy1 : Nat} {b x1 : Int32} {S1 : pplS} (hx : x1 = nI m) (hd : 6 ≤ d) (h : nC μ t n A S dy) (hm : man < eMen A) (hw : lkC μ t n A b man S1 dy1) (hb : b = 0 → noBh A.1.1 A.1.2.1 A.1.2.2) (hdm : dy1 + m ≤ 100000) : Ctr l D d yX9_passAsItGoes cX9_passAsItGoes 4 none [.ref (D.2.2 9 0), .int x1] μ (pV (fun μ' => cqF μ μ' ∧ nC μ' t n A S dy ∧ lkC μ' t n A b man (runF A (wtC μ t) m dy1 S1) (dy1 + m))) := by
  obtain ⟨h0, S2, h1, h2⟩ := hw
  refine (c_X9_passAsItGoes hx hd h h1 (by omega) hdm).mono ?_
  rintro r μ' ⟨⟨rfl⟩, a1, a2, a3, -⟩
  have hA := h.2.2.1.2.1
  exact ⟨rfl, a1, a2, okS_run hA (by omega) h0 m hdm, _, a3, h2.run h.2.2.2.1 hA hb hm m⟩
end LK
theorem stp_0 {A : wEnv} {wet : Int32} {dy : Nat} {S : pplS} {k : Nat} : stp A wet dy S k 0 = S k 0 := by
  have hm : midS A wet dy S k 0 = S k 0 := by
    by_cases hk : k < eMen A
    · obtain ⟨S', e1, e2⟩ := mid_row (A := A) (wet := wet) (dy := dy) (S := S) hk
      rw [e2]
      split
      · rw [← e1]
        rfl
      · rfl
    · rw [mid_out (by omega)]
  unfold stp
  split
  · exact hm
  · exact hm
theorem runF_0 {A : wEnv} {wet : Int32} {dy : Nat} {S : pplS} {k : Nat} : ∀ c, runF A wet c dy S k 0 = S k 0 := by
  intro c
  induction c with
  | zero => rfl
  | succ c ih => exact stp_0.trans ih
theorem runF_hi {A : wEnv} {wet : Int32} {dy : Nat} {S : pplS} {k j : Nat} (hj : 10 ≤ j) : ∀ c, runF A wet c dy S k j = S k j := by
  intro c
  induction c with
  | zero => rfl
  | succ c ih => exact (stp_hi hj).trans ih
/-! the reference: a slot of the run is set -/
theorem wM_set {μ : gMem} {n e e' dy man j k : Nat} {A : wEnv} {S : pplS} {v : Int32} (h : wM μ n 1 A e S dy) (hk : k = mkk j) (hj : j ≤ 10) (hm : man < eMen A) (h3 : j = 10 → ¬ μ.1 10 0 51 = 3 ∧ (v = 0 ∨ v = 1)) (hS : okS A e' (setS S man j v) dy) : wM (gsI μ k 0 (5 + man) v) n 1 A e' (setS S man j v) dy := by
  subst hk
  obtain ⟨hT, hA, ⟨hg, hpl, hon⟩, hps, hr, _, hdy⟩ := h
  have hmk := mkk_rng j (by omega)
  have g : ∀ k, ¬ k = mkk j → (gsI μ (mkk j) 0 (5 + man) v).1 k 0 = μ.1 k 0 := fun k hk => gsI_off (by omega)
  have g' : ∀ k, k < 740 → (gsI μ (mkk j) 0 (5 + man) v).1 k 0 = μ.1 k 0 := fun k hk => gsI_off (by omega)
  have h5 := hA.1
  refine ⟨hT.of (g' _ (by omega)) (g' _ (by omega)) (g' _ (by omega)) (g' _ (by omega)) (g' _ (by omega)) (g' _ (by omega)), hA, ⟨?_, ?_, hon⟩, fun p hp => ?_, fun k hk => ?_, hS, ?_⟩
  · unfold gnM; rw [g' 10 (by omega)]; exact hg
  · unfold plM; rw [g' 10 (by omega)]; exact hpl
  · unfold prM
    rw [g' 10 (by omega), g' 713 (by omega), g' 714 (by omega), g 751 (by omega)]
    exact hps p hp
  · have hrk := hr k hk
    by_cases hkm : k = man
    · subst hkm
      refine ⟨?_, ?_⟩
      · rw [setS_m, ← hrk.1]
        have hPM : PM (gsI μ (mkk j) 0 (5 + k) v) (5 * 1 + k) = fun z => if z = j then v else PM μ (5 * 1 + k) z := PM_put j (by omega)
        funext z
        unfold peM bnM
        rw [hPM, g' 10 (by omega)]
        by_cases hz : z = 10
        · rw [if_pos hz, if_pos hz]
          by_cases hj10 : j = 10
          · subst hj10
            rw [if_pos hz, if_neg (h3 rfl).1]
            show (gsI μ 747 0 (5 + k) v).1 747 0 (5 * 1 + k) = v
            rw [gsI_at, if_pos ⟨rfl, rfl, by omega⟩]
          · rw [if_neg (show ¬ z = j by omega), g 747 (fun q => hj10 ((mkk_inj 10 (by omega) j (by omega) q).symm))]
        · rw [if_neg hz, if_neg hz]
      · by_cases hj10 : j = 10
        · subst hj10
          show (gsI μ 747 0 (5 + k) v).1 747 0 (5 * 1 + k) = 0 ∨ (gsI μ 747 0 (5 + k) v).1 747 0 (5 * 1 + k) = 1
          rw [gsI_at, if_pos ⟨rfl, rfl, by omega⟩]
          exact (h3 rfl).2
        · rw [g 747 (fun q => hj10 ((mkk_inj 10 (by omega) j (by omega) q).symm))]
          exact hrk.2
    · have hoff : ∀ z, (gsI μ (mkk j) 0 (5 + man) v).1 z 0 (5 * 1 + k) = μ.1 z 0 (5 * 1 + k) := fun z => by rw [gsI_at, if_neg (by omega)]
      rw [setS_r hkm, ← hrk.1, hoff]
      exact ⟨peM_cong (fun z _ _ => hoff z) (by rw [g' 10 (by omega)]), hrk.2⟩
  · rw [g' 737 (by omega)]; exact hdy
