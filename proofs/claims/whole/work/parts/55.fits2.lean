/-! fits -/
/-- what is told: deeds truly and counted, plans, goals, bases -/
abbrev tTV : Type := (Nat → Int32) × (Nat → Int32) × (Nat → Int32) × (Nat → Int32) × (Nat → Int32)
def tvC (μ : gMem) (t n : Nat) (T : tTV) : Prop := (∀ z, z < n → μ.1 519 t z = T.1 z ∧ μ.1 520 t z = T.2.1 z) ∧ (∀ k, k < 30 → μ.1 523 t k = T.2.2.1 k) ∧ ∀ p, p < 5 → μ.1 514 t p = T.2.2.2.1 p ∧ μ.1 515 t p = T.2.2.2.2 p
def tvM (μ : gMem) (n men : Nat) (T : tTV) : Prop := (∀ z, z < n → μ.1 713 0 z = T.1 z ∧ μ.1 714 0 z = T.2.1 z) ∧ (∀ k, k < 30 → μ.1 716 0 k = T.2.2.1 k) ∧ ∀ p, p < men → μ.1 709 0 p = T.2.2.2.1 p ∧ μ.1 710 0 p = T.2.2.2.2 p
def tvOk (n men : Nat) (T : tTV) : Prop := (∀ z, z < n → inR (T.2.1 z) 0 20) ∧ (∀ k, k < 30 → inR (T.2.2.1 k) 0 9) ∧ ∀ p, p < men → inR (T.2.2.2.1 p) 0 99 ∧ inR (T.2.2.2.2 p) 0 99
def rowO (T0 : Nat → Int32) (man deed k p : Nat) : Nat → Int32 := fun j => if p = man ∧ j = deed then nI k else T0 (6 * p + j)
def mkA (A : wEnv) (pr pc : Nat → Int32) : wEnv := (A.1, A.2.1, A.2.2.1, (pr, pc, A.2.2.2.1.2.2), (-1, 0, fun _ => true))
noncomputable def fitA (A : wEnv) (n : Nat) (T : tTV) (man deed k : Nat) : wEnv := mkA A (fun p => psum T.1 (rowO T.2.2.1 man deed k p) n) (fun p => psum T.2.1 (rowO T.2.2.1 man deed k p) n)
def fitS (T : tTV) : pplS := fun p => psn (T.2.2.2.1 p) (T.2.2.2.2 p)
noncomputable def fitL (N : nTV) (kn : Nat) (A : wEnv) (wet : Int32) (S : pplS) : Nat → Nat → Int32
  | 0, _ => 1
  | c + 1, j => if agP N kn (nI j) (runF A wet j 0 S) then fitL N kn A wet S c (j + 1) else 0
noncomputable def fitV (N : nTV) (kn : Nat) (A : wEnv) (n : Nat) (T : tTV) (wet : Int32) (man deed k : Nat) : Int32 := fitL N kn (fitA A n T man deed k) wet (fitS T) (ix (lstL N kn kn 0 0)) 1
noncomputable def fitB (F : Nat → Int32) : Nat → Nat → Int32 → Int32
  | 0, _, b => b
  | c + 1, k, b => fitB F c (k + 1) (if F k = 0 then b else b ||| ((1 : Int32) <<< (nI k &&& 31)))
noncomputable def fitsF (N : nTV) (kn : Nat) (A : wEnv) (n : Nat) (T : tTV) (wet x1 x2 : Int32) : Int32 := if isM (eMen A) x1 ∧ isM n x2 then fitB (fitV N kn A n T wet (ix x1) (ix x2)) 10 0 0 else -1
theorem psum_rng {f g : Nat → Int32} : ∀ n, (∀ z, z < n → inR (f z) 0 20 ∧ inR (g z) 0 9) → n ≤ 6 → 0 ≤ (psum f g n).toInt ∧ (psum f g n).toInt ≤ 180 * n := by
  intro n
  induction n with
  | zero => intro _ _; rw [psum, i32_0]; omega
  | succ n ih =>
    intro h hn
    have h1 := ih (fun z hz => h z (by omega)) (by omega)
    obtain ⟨⟨a1, a2⟩, b1, b2⟩ := h n (by omega)
    have m1 : (f n).toInt * (g n).toInt ≤ 20 * 9 := Int.mul_le_mul a2 b2 b1 (by omega)
    have m0 : 0 ≤ (f n).toInt * (g n).toInt := Int.mul_nonneg a1 b1
    have e1 : (f n * g n).toInt = (f n).toInt * (g n).toInt := fb_mulI (by omega) (by omega)
    rw [psum, fb_addI (by rw [e1]; omega) (by rw [e1]; omega), e1]
    omega
theorem rowO_rng {T0 : Nat → Int32} {man deed k p : Nat} (h : ∀ z, z < 30 → inR (T0 z) 0 9) (hk : k ≤ 9) (hp : p < 5) : ∀ j, j < 6 → inR (rowO T0 man deed k p j) 0 9 := by
  intro j hj
  unfold rowO
  split
  · unfold inR
    rw [nI_toInt (by omega)]
    omega
  · exact h _ (by omega)
theorem fitA_ok {A : wEnv} {n man deed k : Nat} {T : tTV} (hA : okA A) (hn : n ≤ 6) (hT : tvOk n (eMen A) T) (hk : k ≤ 9) : okA (fitA A n T man deed k) := by
  have h5 := hA.1
  refine ⟨hA.1, hA.2.1, hA.2.2.1, hA.2.2.2.1, fun p hp => ?_⟩
  have hp2 : p < eMen A := hp
  have := psum_rng (f := T.2.1) (g := rowO T.2.2.1 man deed k p) n (fun z hz => ⟨hT.1 z hz, rowO_rng hT.2.1 hk (by omega) z (by omega)⟩) hn
  show 0 ≤ (psum T.2.1 (rowO T.2.2.1 man deed k p) n).toInt ∧ (psum T.2.1 (rowO T.2.2.1 man deed k p) n).toInt ≤ 2000
  omega
theorem fitS_ok {A : wEnv} {n man deed k : Nat} {T : tTV} (hT : tvOk n (eMen A) T) : okS (fitA A n T man deed k) 0 (fitS T) 0 := by
  refine ⟨fun p hp => ?_, fun z hz => ?_, fun z h1 h2 => rfl, fun z hz => Or.inr rfl⟩
  · have hp2 : p < eMen A := hp
    obtain ⟨a, b⟩ := hT.2.2 p hp2
    refine ⟨⟨a, b, ?_⟩, ?_⟩
    · show 0 ≤ (0 : Int32).toInt ∧ (0 : Int32).toInt ≤ 2000
      rw [i32_0]; omega
    · show 0 ≤ (0 : Int32).toInt ∧ (0 : Int32).toInt ≤ (0 : Nat)
      rw [i32_0]; omega
  · show 0 ≤ (0 : Int32).toInt ∧ (0 : Int32).toInt ≤ _
    rw [i32_0]; omega
section Q7
variable {l : Launch} {D : gD} {d : Nat} {μ : gMem} {t n dy kn : Nat} {A : wEnv} {S : pplS} {N : nTV} {T : tTV} {x1 x2 x3 : Int32}
theorem ntC.cq {μ' : gMem} (h : ntC μ kn N) (hF : cqF μ μ') : ntC μ' kn N := by
  unfold ntC
  rw [hF.1 3 0 (by omega) (by omega), hF.1 260 0 (by omega) (by omega), hF.1 256 0 (by omega) (by omega), hF.1 257 0 (by omega) (by omega), hF.1 258 0 (by omega) (by omega), hF.1 259 0 (by omega) (by omega)]
  exact h
theorem tvC.cw {μ' : gMem} (h : tvC μ t n T) (hF : cwF μ μ') : tvC μ' t n T := by
  unfold tvC
  rw [hF.g (k := 519) (j := t) (by omega), hF.g (k := 520) (j := t) (by omega), hF.g (k := 523) (j := t) (by omega), hF.g (k := 514) (j := t) (by omega), hF.g (k := 515) (j := t) (by omega)]
  exact h
theorem fitC_start {μ1 μ2 : gMem} {man deed k : Nat} (h : nC μ t n A S dy) (hT : tvC μ t n T) (hO : tvOk n (eMen A) T) (hm : man < eMen A) (hdd : deed < n) (hk : k ≤ 9) (hb : wBg 2 t μ μ1) (e2 : μ2 = gsI μ1 331 (5 * 2 + man) deed (nI k)) : wC μ2 t n 2 (fitA A n T man deed k) 0 (fitS T) 0 ∧ cqF μ μ2 := by
  have h5 := h.men
  have hn6 := h.2.2.1.1.2.2.1
  obtain ⟨hF, hr, ⟨c1, c2, c3⟩, ⟨c4, c5, c6, c7⟩, hj⟩ := hb
  have hF2 : cqF μ1 μ2 := by rw [e2]; exact cqF.rf.put (by omega)
  have hG := hF.cq.tr hF2
  have g8 : μ2.1 8 2 = μ1.1 8 2 := by rw [e2, gsI_off (by omega)]
  refine ⟨⟨hG.tC h.2.2.1.1, fitA_ok h.2.2.1.2.1 hn6 hO hk, ⟨by rw [g8]; exact c5, by rw [g8]; exact c7, fun p hp => ?_⟩, fun p hp => ?_, ⟨fun z hz => ?_, ⟨fun i z hz => ?_, fun i z hz => ?_⟩⟩, fitS_ok hO, by rw [g8]; exact c1⟩, hG⟩
  · have hp2 : p < eMen A := hp
    rw [g8, c6]
    exact ⟨fun _ => ⟨nI_nm1 (by omega), Or.inl rfl⟩, fun _ => rfl⟩
  · have hp2 : p < eMen A := hp
    rw [hG.1 519 t (by omega) (by omega), hG.1 520 t (by omega) (by omega)]
    have row : ∀ z, z < n → μ2.1 331 (5 * 2 + p) z = rowO T.2.2.1 man deed k p z := by
      intro z hz
      rw [e2, gsI_at]
      unfold rowO
      by_cases hc : p = man ∧ z = deed
      · rw [if_pos ⟨rfl, by omega, hc.2⟩, if_pos hc]
      · rw [if_neg (by omega), if_neg hc, (hr p (by omega)).2]
        show (if z < 6 then μ.1 523 t (6 * p + z) else 0) = _
        rw [if_pos (by omega), hT.2.1 _ (by omega)]
    exact ⟨psum_cong n (fun z hz => ⟨(hT.1 z hz).1, row z hz⟩), psum_cong n (fun z hz => ⟨(hT.1 z hz).2, row z hz⟩)⟩
  · rw [e2, gsI_off (by omega), (hr z hz).1, (hT.2.2 z hz).1, (hT.2.2 z hz).2]
    rfl
  · rw [e2, gsI_at, if_neg (by omega)]; exact hj.1 i z hz
  · rw [e2, gsI_at, if_neg (by omega)]; exact hj.2 i z hz
theorem agreesC_loop {Γ : gC} {q : Int32 → gMem → Prop} {A' : wEnv} {S' : pplS} {L : Nat} {v : Int32} {μ0 : gMem} (hd : 7 ≤ d) (hmen : eMen A' = eMen A) (hL : L ≤ 40) (hN : ntC μ0 kn N) (hO : ntOk (eMen A) kn N) (hf : ∀ z, z < kn → μ0.1 261 0 z = flN N kn z) (hq : ∀ μ', cqF μ0 μ' → nC μ' t n A S dy → q v μ') :
    ∀ (c j : Nat) (μ : gMem), j + c = L → cqF μ0 μ → nC μ t n A S dy → wC μ t n 2 A' 0 (runF A' (wtC μ0 t) j 0 S') (0 + j) → fitL N kn A' (wtC μ0 t) S' c (j + 1) = v → pt_X9_agreesWithNotes_1 l D d q Γ 0 (nI L) (nI (j + 1)) μ := by
  intro c
  induction c with
  | zero =>
    intro j μ hj hF hn hw hv
    refine bl_X9_agreesWithNotes_1 (by decide) ⟨fun _ => ?_, fun z => absurd (nI_lt (by omega) (by omega)) z⟩
    rw [show (1 : Int32) = v from hv]
    exact hq μ hF hn
  | succ c ih =>
    intro j μ hj hF hn hw hv
    have h5 := hn.men
    refine bl_X9_agreesWithNotes_1 (by decide) ⟨fun z => absurd z (nI_nlt (by omega) (by omega)), fun _ => ⟨6, _, by omega, c_X9_passAsItGoes (m := 1) rfl (by omega) hn hw (by omega) (by omega), ?_⟩⟩
    rintro μ1 ⟨hF1, hn1, hw1, -⟩
    rw [wtC.cq hF] at hw1
    have hw1' : wC μ1 t n 2 A' 0 (runF A' (wtC μ0 t) (j + 1) 0 S') (0 + (j + 1)) := hw1
    have hG := hF.tr hF1
    refine ⟨1, _, by omega, c_X3_agree (x := nI (j + 1)) (S := runF A' (wtC μ0 t) (j + 1) 0 S') (by omega) h5 (hN.cq hG) hO (fun z hz => by rw [hG.1 261 0 (by omega) (by omega)]; exact hf z hz) (fun p hp => by rw [show 10 + p = 5 * 2 + p by omega, hw1'.2.2.2.2.1.1 p (by omega)]), ?_⟩
    rintro v1 μ2 ⟨rfl, rfl⟩
    rw [fitL] at hv
    by_cases ha : agP N kn (nI (j + 1)) (runF A' (wtC μ0 t) (j + 1) 0 S')
    · rw [if_pos ha] at hv
      rw [bI, if_pos ha]
      refine ⟨fun _ => ?_, fun z => absurd z (by decide)⟩
      rintro _ rfl
      rw [nI_1]
      exact ih (j + 1) _ (by omega) hG hn1 hw1' hv
    · rw [if_neg ha] at hv
      rw [bI, if_neg ha]
      refine ⟨fun z => absurd rfl z, fun _ => ?_⟩
      rw [hv]
      exact hq _ hG hn1
theorem c_X9_agrees {man deed k : Nat} (hd : 8 ≤ d) (h : nC μ t n A S dy) (hT : tvC μ t n T) (hO : tvOk n (eMen A) T) (hN : ntC μ kn N) (hNO : ntOk (eMen A) kn N) (hf : ∀ z, z < kn → μ.1 261 0 z = flN N kn z) (hm : man < eMen A) (hdd : deed < n) (hk : k ≤ 9) : Ctr l D d yX9_agreesWithNotes cX9_agreesWithNotes 6 (some .boolean) [.ref (D.2.2 9 0), .int (nI man), .int (nI deed), .int (nI k)] μ (pI (fun v μ' => v = fitV N kn A n T (wtC μ t) man deed k ∧ cqF μ μ' ∧ nC μ' t n A S dy)) := by
  have h5 := h.men
  have hn6 := h.2.2.1.1.2.2.1
  refine en_X9_agreesWithNotes (fun Γ => bl_X9_agreesWithNotes_0 (by decide) ?_)
  rw [h.1]
  refine ⟨h.2.1, 2, _, by omega, c_X8_start (w := 2) (t := t) (by omega) (by decide) h.2.1 h.jk, ?_⟩
  rintro μ1 hb
  refine ⟨man, by omega, rfl, deed, by omega, rfl, ?_⟩
  rintro μ2 e2
  obtain ⟨hw2, hF2⟩ := fitC_start h hT hO hm hdd hk hb e2
  have hf2 : ∀ z, z < kn → μ2.1 261 0 z = flN N kn z := fun z hz => by rw [hF2.1 261 0 (by omega) (by omega)]; exact hf z hz
  have hn2 := h.cq hF2 hw2.2.2.2.2.1.2
  refine ⟨1, _, by omega, c_X3_lastDay (by omega) (hN.cq hF2) hf2, ?_⟩
  rintro v μ3 ⟨rfl, rfl⟩ x4 e4 _ rfl
  have rg := lstL_rng hNO hN.2.1 kn 0 0 (by omega) (by rw [i32_0]; omega) (by rw [i32_0]; omega)
  have e5 : x4 = nI (ix (lstL N kn kn 0 0)) := e4.trans (ix_nI rg.1)
  rw [e5]
  refine agreesC_loop (μ0 := μ3) (A := A) (S := S) (A' := fitA A n T man deed k) (S' := fitS T) (N := N) (kn := kn) (v := fitV N kn A n T (wtC μ t) man deed k) (by omega) rfl (by unfold ix; omega) (hN.cq hF2) hNO hf2 (fun μ' a b => ⟨rfl, hF2.tr a, b⟩) _ 0 μ3 (Nat.zero_add _) cqF.rf hn2 hw2 ?_
  rw [wtC.cq hF2]
  rfl
theorem fitsC_loop {Γ : gC} {q : Int32 → gMem → Prop} {man deed : Nat} {v : Int32} {μ0 : gMem} (hd : 9 ≤ d) (hT : tvC μ0 t n T) (hO : tvOk n (eMen A) T) (hN : ntC μ0 kn N) (hNO : ntOk (eMen A) kn N) (hf : ∀ z, z < kn → μ0.1 261 0 z = flN N kn z) (hm : man < eMen A) (hdd : deed < n) (hq : ∀ μ', cqF μ0 μ' → nC μ' t n A S dy → q v μ') :
    ∀ (c k : Nat) (μ : gMem) (b : Int32), k + c = 10 → cqF μ0 μ → nC μ t n A S dy → fitB (fitV N kn A n T (wtC μ0 t) man deed) c k b = v → pt_X9_fits_1 l D d q Γ 0 (nI man) (nI deed) b (nI k) μ := by
  have e9 : (9 : Int32) = nI 9 := rfl
  intro c
  induction c with
  | zero =>
    intro k μ b hk hF hn hv
    refine bl_X9_fits_1 (by decide) ⟨fun _ => ?_, fun z => absurd (by rw [e9]; exact nI_lt (by omega) (by omega)) z⟩
    rw [show b = v from hv]
    exact hq μ hF hn
  | succ c ih =>
    intro k μ b hk hF hn hv
    refine bl_X9_fits_1 (by decide) ⟨fun z => absurd z (by rw [e9]; exact nI_nlt (by omega) (by omega)), fun _ => ⟨8, _, by omega, c_X9_agrees (by omega) hn (hT.cw hF.w) hO (hN.cq hF) hNO (fun z hz => by rw [hF.1 261 0 (by omega) (by omega)]; exact hf z hz) hm hdd (by omega), ?_⟩⟩
    rintro v1 μ1 ⟨rfl, hF1, hn1⟩
    rw [wtC.cq hF]
    rw [fitB] at hv
    refine ⟨fun z => bl_X9_fits_2 (by decide) ?_, fun z => ?_⟩
    · rintro _ rfl
      rw [nI_1]
      rw [if_pos z] at hv
      exact ih (k + 1) μ1 _ (by omega) (hF.tr hF1) hn1 hv
    · rintro _ rfl
      refine bl_X9_fits_2 (by decide) ?_
      rintro _ rfl
      rw [nI_1]
      rw [if_neg z] at hv
      exact ih (k + 1) μ1 _ (by omega) (hF.tr hF1) hn1 hv
theorem c_X9_fits (hd : 10 ≤ d) (h : nC μ t n A S dy) (hT : tvC μ t n T) (hO : tvOk n (eMen A) T) (hN : ntC μ kn N) (hNO : ntOk (eMen A) kn N) : Ctr l D d yX9_fits cX9_fits 5 (some .int) [.ref (D.2.2 9 0), .int x1, .int x2] μ (pI (fun v μ' => v = fitsF N kn A n T (wtC μ t) x1 x2 ∧ cwF μ μ' ∧ jk μ')) := by
  have hn6 := h.2.2.1.1.2.2.1
  refine en_X9_fits (fun Γ => bl_X9_fits_0 (by decide) ?_)
  have e5 : iw x2 0 (μ.1 7 t 5 - 1) = 0 ↔ ¬ isM n x2 := by rw [h.2.2.1.1.2.1]; exact iw_man (by omega)
  rw [h.1, h.iw, e5]
  refine ⟨by omega, h.2.1, fun z => ⟨by rw [fitsF, if_neg (fun w => z w.1)], cwF.rf, h.jk⟩, fun z1 => ⟨by omega, h.2.1, fun z2 => ?_, fun z => ⟨by rw [fitsF, if_neg (fun w => z w.2)], cwF.rf, h.jk⟩⟩⟩
  have z1 := Decidable.not_not.mp z1
  have z2 := Decidable.not_not.mp z2
  obtain ⟨m1, m2⟩ := isM_ix z1
  obtain ⟨n1, n2⟩ := isM_ix z2
  refine ⟨1, _, by omega, c_X3_findStruck (by omega) hN hNO, ?_⟩
  rintro μ1 ⟨hF1, hf1⟩ _ rfl _ rfl
  have hW1 : cwF μ μ1 := ⟨fun k j _ _ _ _ hk => hF1.1 k j (fun w => hk w.1), by rw [hF1.2], fun k j _ _ _ _ => by rw [hF1.2]⟩
  have hj1 : jk μ1 := h.jk.of (fun i => hF1.1 4 i (by omega)) (fun i => hF1.1 331 i (by omega))
  have := fitsC_loop (l := l) (D := D) (d := d) (Γ := Γ) (q := fun v μ' => v = fitsF N kn A n T (wtC μ t) x1 x2 ∧ cwF μ μ' ∧ jk μ') (t := t) (n := n) (A := A) (S := S) (dy := dy) (N := N) (kn := kn) (T := T) (man := ix x1) (deed := ix x2) (v := fitsF N kn A n T (wtC μ t) x1 x2) (μ0 := μ1) (by omega) (hT.cw hW1) hO (hN.row hF1) hNO hf1 m2 n2 (fun μ' a b => ⟨rfl, hW1.tr a.w, b.jk⟩) 10 0 μ1 0 (by omega) cqF.rf (h.cw hW1 hj1) (by rw [wtC.cw hW1, fitsF, if_pos ⟨z1, z2⟩])
  rw [← m1, ← n1] at this
  exact this
end Q7
