/-! fits, the reference -/
theorem mst_mq {μ : gMem} : mqF μ (mst μ 1) := by
  refine ⟨fun k j a b => funext fun z => mlay_off (by omega) (by omega) (by omega), fun k a b z c => mlay_off (by omega) (by omega) (by omega), fun k a b z c => mlay_off (by omega) (by omega) (by omega), fun z a => mlay_off (by omega) (by omega) (by omega), fun j a b c => mlay_off (by omega) (by omega) (by omega), rfl, fun _ _ _ _ => rfl⟩
theorem mst_5 {μ : gMem} {a k p : Nat} (h1 : 740 ≤ k) (h2 : k ≤ 750) (hp : p < 5) : (mst μ a).1 k 0 (5 * a + p) = stV μ k p := by
  show (if (0 : Nat) = 0 ∧ 737 ≤ k ∧ k ≤ 739 ∧ 5 * a + p = a then _ else if (0 : Nat) = 0 ∧ 740 ≤ k ∧ k ≤ 750 ∧ 5 * a ≤ 5 * a + p ∧ 5 * a + p < 5 * a + 5 then _ else _) = _
  rw [if_neg (show ¬ ((0 : Nat) = 0 ∧ 737 ≤ k ∧ k ≤ 739 ∧ 5 * a + p = a) by omega), if_pos (by omega), Nat.add_sub_cancel_left]
theorem mst_3 {μ : gMem} {a k : Nat} (h1 : 737 ≤ k) (h2 : k ≤ 739) : (mst μ a).1 k 0 a = if k = 739 then μ.1 707 0 8 else 0 := by
  show (if (0 : Nat) = 0 ∧ 737 ≤ k ∧ k ≤ 739 ∧ a = a then _ else _) = _
  rw [if_pos ⟨rfl, h1, h2, rfl⟩]
theorem mst_t {μ : gMem} {a q : Nat} (hq : q < 30) : (mst μ a).1 751 0 (30 * a + q) = μ.1 716 0 q := mlay_T rfl hq
theorem mst_off {μ : gMem} {a k i : Nat} (h : ¬ (737 ≤ k ∧ k ≤ 751 ∧ i = 0)) : (mst μ a).1 k i = μ.1 k i := funext fun z => mlay_off (by omega) (by omega) (by omega)
/-- a person as begun -/
theorem stV_psn {μ : gMem} {men p : Nat} {g b : Int32} (hm : μ.1 707 0 0 = nI men) (h5 : men ≤ 5) (hp : p < men) (hg : μ.1 709 0 p = g) (hb : μ.1 710 0 p = b) (j : Nat) (hj : j ≤ 10) : stV μ (mkk j) p = psn g b j := by
  have hno : ¬ μ.1 707 0 0 ≤ nI p := by rw [hm]; exact nI_ge hp (by omega)
  revert j
  refine eleven ?_ ?_ ?_ ?_ ?_ ?_ ?_ ?_ ?_ ?_ ?_
  · show (if (740 : Nat) = 740 then (if μ.1 707 0 0 ≤ nI p then 0 else μ.1 709 0 p) else _) = g
    rw [if_pos rfl, if_neg hno, hg]
  · show (if (741 : Nat) = 740 then _ else if (741 : Nat) = 741 then (if μ.1 707 0 0 ≤ nI p then 0 else μ.1 710 0 p) else _) = b
    rw [if_neg (by decide), if_pos rfl, if_neg hno, hb]
  all_goals rfl
section Q7M
variable {l : Launch} {D : gD} {d : Nat} {μ : gMem} {n dy kn : Nat} {A : wEnv} {S : pplS} {N : nTV} {T : tTV} {x1 x2 x3 : Int32}
theorem ntM.mq {μ' : gMem} (h : ntM μ kn N) (hF : mqF μ μ') : ntM μ' kn N := by
  unfold ntM
  rw [hF.2.2.2.2.1 55 (by omega) (by omega) (by omega), hF.2.2.2.2.1 56 (by omega) (by omega) (by omega), hF.1 765 0 (by omega) (by omega), hF.1 761 0 (by omega) (by omega), hF.1 762 0 (by omega) (by omega), hF.1 763 0 (by omega) (by omega), hF.1 764 0 (by omega) (by omega)]
  exact h
theorem tvM.mv {men : Nat} {μ' : gMem} (h : tvM μ n men T) (hF : mvF μ μ') : tvM μ' n men T := by
  have g : ∀ k, 700 ≤ k → k ≤ 720 → μ'.1 k 0 = μ.1 k 0 := fun k a b => hF.1 k 0 (by omega) (by omega) (by omega) (by omega) (by omega)
  unfold tvM
  rw [g 713 (by omega) (by omega), g 714 (by omega) (by omega), g 716 (by omega) (by omega), g 709 (by omega) (by omega), g 710 (by omega) (by omega)]
  exact h
theorem fitM_start {μ2 : gMem} {man deed k : Nat} (h : nM μ n A S dy) (hT : tvM μ n (eMen A) T) (hO : tvOk n (eMen A) T) (hm : man < eMen A) (hdd : deed < n) (hk : k ≤ 9) (e2 : μ2 = gsI (mst μ 1) 751 0 (30 + 6 * man + deed) (nI k)) : wM μ2 n 1 (fitA A n T man deed k) 0 (fitS T) 0 ∧ mqF μ μ2 := by
  have h5 := h.men
  obtain ⟨hT1, hA, -, -, -, -, -⟩ := h.1
  have hn6 := hT1.2.2.1
  have hF2 : mqF μ μ2 := by rw [e2]; exact mst_mq.put (by omega)
  have h51 : μ2.1 10 0 51 = 0 := by rw [hF2.2.2.2.2.1 51 (by omega) (by omega) (by omega)]; exact h.2.2.2.1
  have o : ∀ k, ¬ k = 751 → μ2.1 k 0 = (mst μ 1).1 k 0 := fun k hk => by rw [e2, gsI_off (by omega)]
  refine ⟨⟨hF2.tM hT1, fitA_ok hA hn6 hO hk, ⟨?_, ?_, fun p hp => ?_⟩, fun p hp => ?_, fun p hp => ?_, fitS_ok hO, ?_⟩, hF2⟩
  · unfold gnM; rw [if_neg (by rw [h51]; decide)]; rfl
  · unfold plM; rw [if_neg (by rw [h51]; decide)]; rfl
  · have hp2 : p < eMen A := hp
    exact ⟨fun _ => nI_nm1 (by omega), fun _ => rfl⟩
  · have hp2 : p < eMen A := hp
    unfold prM
    rw [if_neg (by rw [h51]; decide), if_neg (by rw [h51]; decide), hF2.1 713 0 (by omega) (by omega), hF2.1 714 0 (by omega) (by omega)]
    have row : ∀ z, z < n → μ2.1 751 0 (30 * 1 + 6 * p + z) = rowO T.2.2.1 man deed k p z := by
      intro z hz
      rw [e2, gsI_at]
      unfold rowO
      by_cases hc : p = man ∧ z = deed
      · rw [if_pos ⟨rfl, rfl, by omega⟩, if_pos hc]
      · rw [if_neg (by omega), if_neg hc, show 30 * 1 + 6 * p + z = 30 * 1 + (6 * p + z) by omega, mst_t (by omega), hT.2.1 _ (by omega)]
    exact ⟨psum_cong n (fun z hz => ⟨(hT.1 z hz).1, row z hz⟩), psum_cong n (fun z hz => ⟨(hT.1 z hz).2, row z hz⟩)⟩
  · have hp2 : p < eMen A := hp
    have v : ∀ j, j ≤ 10 → μ2.1 (mkk j) 0 (5 * 1 + p) = fitS T p j := by
      intro j hj
      have := mkk_rng j (by omega)
      rw [o _ (by omega), mst_5 (by omega) (by omega) (by omega), stV_psn hT1.1 h5 hp2 (hT.2.2 p hp2).1 (hT.2.2 p hp2).2 j hj]
      rfl
    refine ⟨?_, Or.inr (v 10 (by omega))⟩
    funext j
    unfold peM bnM PM
    by_cases hj : j = 10
    · rw [if_pos hj, if_neg (by rw [h51]; decide), hj]
      exact v 10 (by omega)
    · rw [if_neg hj]
      by_cases hj2 : j ≤ 10
      · rw [if_pos hj2]; exact v j hj2
      · rw [if_neg hj2]
        show (0 : Int32) = if j = 0 then _ else if j = 1 then _ else if j = 10 then _ else _
        rw [if_neg (by omega), if_neg (by omega), if_neg (by omega)]
  · rw [o 737 (by omega), mst_3 (by omega) (by omega), if_neg (by decide)]
    rfl
theorem fitsTimes_loop {Γ : gC} {q : Int32 → gMem → Prop} {A' : wEnv} {S' : pplS} {L : Nat} {v : Int32} {μ0 : gMem} (hd : 6 ≤ d) (hmen : eMen A' = eMen A) (h5 : eMen A ≤ 5) (hL : L ≤ 40) (hN : ntM μ0 kn N) (hO : ntOk (eMen A) kn N) (hf : ∀ z, z < kn → μ0.1 766 0 z = flN N kn z) (hq : ∀ μ', mqF μ0 μ' → q v μ') :
    ∀ (c j : Nat) (μ : gMem), j + c = L → mqF μ0 μ → wM μ n 1 A' 0 (runF A' (wtM μ0) j 0 S') (0 + j) → fitL N kn A' (wtM μ0) S' c (j + 1) = v → pt_X10_fitsTimes_1 l D d q Γ 0 (nI L) (nI (j + 1)) μ := by
  intro c
  induction c with
  | zero =>
    intro j μ hj hF hw hv
    refine bl_X10_fitsTimes_1 (by decide) ⟨fun _ => ?_, fun z => absurd (nI_lt (by omega) (by omega)) z⟩
    rw [show (1 : Int32) = v from hv]
    exact hq μ hF
  | succ c ih =>
    intro j μ hj hF hw hv
    refine bl_X10_fitsTimes_1 (by decide) ⟨fun z => absurd z (nI_nlt (by omega) (by omega)), fun _ => ⟨5, _, by omega, d_run (by omega) hw (by omega) (by omega), ?_⟩⟩
    rintro μ1 ⟨hF1, hw1, -⟩
    rw [wtM.mq hF] at hw1
    have hw1' : wM μ1 n 1 A' 0 (runF A' (wtM μ0) (j + 1) 0 S') (0 + (j + 1)) := hw1
    have hG := hF.tr hF1
    refine ⟨1, _, by omega, c_X10_isSo (x := nI (j + 1)) (S := runF A' (wtM μ0) (j + 1) 0 S') (by omega) h5 (hN.mq hG) hO (fun z hz => by rw [hG.1 766 0 (by omega) (by omega)]; exact hf z hz) (fun p hp => hw1'.at (by omega) (j := 6) (by omega)), ?_⟩
    rintro v1 μ2 ⟨rfl, rfl⟩
    rw [fitL] at hv
    by_cases ha : agP N kn (nI (j + 1)) (runF A' (wtM μ0) (j + 1) 0 S')
    · rw [if_pos ha] at hv
      rw [bI, if_pos ha]
      refine ⟨fun _ => ?_, fun z => absurd z (by decide)⟩
      rintro _ rfl
      rw [nI_1]
      exact ih (j + 1) _ (by omega) hG hw1' hv
    · rw [if_neg ha] at hv
      rw [bI, if_neg ha]
      refine ⟨fun z => absurd rfl z, fun _ => ?_⟩
      rw [hv]
      exact hq _ hG
theorem c_X10_fitsTimes {man deed k : Nat} {x4 : Int32} (hd : 7 ≤ d) (h : nM μ n A S dy) (hT : tvM μ n (eMen A) T) (hO : tvOk n (eMen A) T) (hN : ntM μ kn N) (hNO : ntOk (eMen A) kn N) (hf : ∀ z, z < kn → μ.1 766 0 z = flN N kn z) (hm : man < eMen A) (hdd : deed < n) (hk : k ≤ 9) (h4 : x4 = lstL N kn kn 0 0) : Ctr l D d yX10_fitsTimes cX10_fitsTimes 6 (some .boolean) [.ref (D.2.2 10 0), .int (nI man), .int (nI deed), .int (nI k), .int x4] μ (pI (fun v μ' => v = fitV N kn A n T (wtM μ) man deed k ∧ mqF μ μ')) := by
  have h5 := h.men
  have hn6 := h.1.1.2.2.1
  refine en_X10_fitsTimes (fun Γ => bl_X10_fitsTimes_0 (by decide) ⟨0, _, by omega, c_X10_starts (a := 1) (by decide), ?_⟩)
  rintro _ rfl
  have ei : ((30 : Int32) + ((6 : Int32) * nI man)) + nI deed = nI (30 + 6 * man + deed) := by
    rw [show (30 : Int32) = nI 30 from rfl, show (6 : Int32) = nI 6 from rfl, pk_mul, nI_add, nI_add]
  refine ⟨30 + 6 * man + deed, by omega, ei, ?_⟩
  rintro μ2 e2 _ rfl
  obtain ⟨hw2, hF2⟩ := fitM_start h hT hO hm hdd hk e2
  have hf2 : ∀ z, z < kn → μ2.1 766 0 z = flN N kn z := fun z hz => by rw [hF2.1 766 0 (by omega) (by omega)]; exact hf z hz
  have rg := lstL_rng hNO hN.2.1 kn 0 0 (by omega) (by rw [i32_0]; omega) (by rw [i32_0]; omega)
  have e5 : x4 = nI (ix (lstL N kn kn 0 0)) := h4.trans (ix_nI rg.1)
  rw [e5]
  refine fitsTimes_loop (μ0 := μ2) (A := A) (A' := fitA A n T man deed k) (S' := fitS T) (N := N) (kn := kn) (v := fitV N kn A n T (wtM μ) man deed k) (by omega) rfl h5 (by unfold ix; omega) (hN.mq hF2) hNO hf2 (fun μ' a => ⟨rfl, hF2.tr a⟩) _ 0 μ2 (Nat.zero_add _) mqF.rf hw2 ?_
  rw [wtM.mq hF2]
  rfl
theorem fitsM_6 {Γ : gC} {q : Int32 → gMem → Prop} {man deed : Nat} {v x3 : Int32} {μ0 : gMem} (hd : 8 ≤ d) (hT : tvM μ0 n (eMen A) T) (hO : tvOk n (eMen A) T) (hN : ntM μ0 kn N) (hNO : ntOk (eMen A) kn N) (hf : ∀ z, z < kn → μ0.1 766 0 z = flN N kn z) (hm : man < eMen A) (hdd : deed < n) (h3 : x3 = lstL N kn kn 0 0) (hq : ∀ μ', mqF μ0 μ' → q v μ') :
    ∀ (c k : Nat) (μ : gMem) (b : Int32), k + c = 10 → mqF μ0 μ → nM μ n A S dy → fitB (fitV N kn A n T (wtM μ0) man deed) c k b = v → pt_X10_fits_6 l D d q Γ 0 (nI man) (nI deed) x3 b (nI k) μ := by
  have e9 : (9 : Int32) = nI 9 := rfl
  intro c
  induction c with
  | zero =>
    intro k μ b hk hF hn hv
    refine bl_X10_fits_6 (by decide) ⟨fun _ => ?_, fun z => absurd (by rw [e9]; exact nI_lt (by omega) (by omega)) z⟩
    rw [show b = v from hv]
    exact hq μ hF
  | succ c ih =>
    intro k μ b hk hF hn hv
    refine bl_X10_fits_6 (by decide) ⟨fun z => absurd z (by rw [e9]; exact nI_nlt (by omega) (by omega)), fun _ => ⟨7, _, by omega, c_X10_fitsTimes (by omega) hn (hT.mv hF.v) hO (hN.mq hF) hNO (fun z hz => by rw [hF.1 766 0 (by omega) (by omega)]; exact hf z hz) hm hdd (by omega) h3, ?_⟩⟩
    rintro v1 μ1 ⟨rfl, hF1⟩
    rw [wtM.mq hF]
    rw [fitB] at hv
    have hn1 := hn.mq hF1
    refine ⟨fun z => bl_X10_fits_7 (by decide) ?_, fun z => bl_X10_fits_7 (by decide) ?_⟩
    · rintro _ rfl _ rfl
      rw [nI_1, Int32.or_zero]
      rw [if_pos z] at hv
      exact ih (k + 1) μ1 _ (by omega) (hF.tr hF1) hn1 hv
    · rintro _ rfl _ rfl
      rw [nI_1]
      rw [if_neg z] at hv
      exact ih (k + 1) μ1 _ (by omega) (hF.tr hF1) hn1 hv
theorem fitsM_4 {Γ : gC} {q : Int32 → gMem → Prop} (hd : 1 ≤ d) (hN : ntM μ kn N) (hf : ∀ z, z < kn → μ.1 766 0 z = flN N kn z) (hq : pt_X10_fits_6 l D d q Γ 0 x1 x2 (lstL N kn kn 0 0) 0 0 μ) :
    ∀ (c k : Nat) (a : Int32), k + c = kn → lstL N kn c k a = lstL N kn kn 0 0 → pt_X10_fits_4 l D d q Γ 0 x1 x2 a (nI k) μ := by
  have h24 := hN.2.1
  generalize hv : lstL N kn kn 0 0 = v at hq ⊢
  intro c
  induction c with
  | zero =>
    intro k a hk hv2
    refine bl_X10_fits_4 (by decide) ?_
    rw [hN.1]
    refine ⟨by omega, fun _ => ?_, fun z => absurd (nI_le (by omega) (by omega)) z⟩
    rintro _ rfl _ rfl
    rw [show a = v from hv2]
    exact hq
  | succ c ih =>
    intro k a hk hv2
    have nx : ∀ a' : Int32, lstL N kn c (k + 1) a' = v → pt_X10_fits_5 l D d q Γ 0 x1 x2 a' (nI k) μ := by
      intro a' ha
      refine bl_X10_fits_5 (by decide) ?_
      rintro _ rfl
      rw [nI_1]
      exact ih (k + 1) a' (by omega) ha
    rw [lstL] at hv2
    refine bl_X10_fits_4 (by decide) ?_
    rw [hN.1]
    refine ⟨by omega, fun z => absurd z (nI_ge (by omega) (by omega)), fun _ => ⟨k, by omega, rfl, ?_⟩⟩
    rw [hf k (by omega)]
    refine ⟨fun z => nx a (by rw [if_neg (fun w => z w.2)] at hv2; exact hv2), fun z1 => ⟨k, by omega, rfl, ?_⟩⟩
    rw [(hN.2.2 k (by omega)).1]
    refine ⟨fun z => nx a (by rw [if_neg (fun w => z w.1)] at hv2; exact hv2), fun z2 => ⟨k, by omega, rfl, by omega, ?_⟩⟩
    rw [((hN.2.2 k (by omega)).2 z2).1]
    rintro _ rfl
    rw [if_pos ⟨z2, z1⟩] at hv2
    exact nx _ hv2
theorem fitsM_2 {Γ : gC} {q : Int32 → gMem → Prop} {μ0 : gMem} (hN : ntM μ0 kn N) (hO : ntOk (eMen A) kn N) (hq : ∀ μ', rowF 766 μ0 μ' → (∀ z, z < kn → μ'.1 766 0 z = flN N kn z) → pt_X10_fits_4 l D d q Γ 0 x1 x2 x3 0 μ') :
    ∀ (k : Nat) (μ : gMem) (f : Nat → Int32), k ≤ kn → rowF 766 μ0 μ → (∀ z, z < kn → μ.1 766 0 z = f z) → skF N.1 k f = flN N kn → pt_X10_fits_2 l D d q Γ 0 x1 x2 x3 (nI k - 1) μ := by
  intro k
  induction k with
  | zero =>
    intro μ f _ hF hf hs
    refine bl_X10_fits_2 (by decide) ⟨fun _ => ?_, fun z => absurd (by decide) z⟩
    rintro _ rfl
    refine hq μ hF (fun z hz => ?_)
    rw [hf z hz, ← hs]
    rfl
  | succ k ih =>
    intro μ f hk hF hf hs
    have h24 := hN.2.1
    have e260 : μ.1 765 0 k = N.1 k := by rw [hF.1 765 0 (by omega)]; exact (hN.2.2 k (by omega)).1
    rw [nI_pred]
    rw [skF] at hs
    refine bl_X10_fits_2 (by decide) ⟨fun z => absurd z (nI_pos (by omega)), fun _ => ⟨k, by omega, rfl, ?_⟩⟩
    rw [hf k (by omega)]
    refine ⟨fun h1 => bl_X10_fits_3 (by decide) ?_, fun h1 => ⟨k, by omega, rfl, ?_⟩⟩
    · rintro _ rfl
      rw [m1s]
      rw [if_neg (fun w => h1 w.1)] at hs
      exact ih μ f (by omega) hF hf hs
    · rw [e260]
      refine ⟨fun h2 => bl_X10_fits_3 (by decide) ?_, fun h2 => ⟨k, by omega, rfl, ?_⟩⟩
      · rintro _ rfl
        rw [m1s]
        rw [if_neg (fun w => w.2 h2)] at hs
        exact ih μ f (by omega) hF hf hs
      · rw [e260]
        rcases hO k (by omega) with w | ⟨j, hj, ej⟩
        · exact absurd w.1 h2
        · refine ⟨j, by omega, ej, ?_⟩
          rw [nar1]
          rintro μ1 e1
          refine bl_X10_fits_3 (by decide) ?_
          rintro _ rfl
          rw [m1s]
          rw [if_pos ⟨h1, h2⟩] at hs
          refine ih μ1 _ (by omega) (by rw [e1]; exact hF.put _ _) (fun z hz => ?_) hs
          rw [e1, gsI_row]
          show (if z = j then (1 : Int32) else μ.1 766 0 z) = if z = ix (N.1 k) then 1 else f z
          rw [ix_eq ej (by omega), hf z hz]
theorem fitsM_1 {Γ : gC} {q : Int32 → gMem → Prop} {μ0 : gMem} (hd : 1 ≤ d) (hN : ntM μ0 kn N) (hO : ntOk (eMen A) kn N) (hq : ∀ μ', rowF 766 μ0 μ' → (∀ z, z < kn → μ'.1 766 0 z = flN N kn z) → pt_X10_fits_4 l D d q Γ 0 x1 x2 x3 0 μ') :
    ∀ (c j : Nat) (μ : gMem), j + c = kn → rowF 766 μ0 μ → (∀ z, z < j → μ.1 766 0 z = 0) → pt_X10_fits_1 l D d q Γ 0 x1 x2 x3 (nI j) μ := by
  have h24 := hN.2.1
  intro c
  induction c with
  | zero =>
    intro j μ hj hF hz
    have hN1 := hN.row hF
    refine bl_X10_fits_1 (by decide) ?_
    rw [hN1.1]
    refine ⟨by omega, fun _ => ⟨by omega, ?_⟩, fun z => absurd (nI_le (by omega) (by omega)) z⟩
    rintro _ rfl
    exact fitsM_2 hN hO hq kn μ (fun _ => 0) (Nat.le_refl _) hF (fun z hk => hz z (by omega)) rfl
  | succ c ih =>
    intro j μ hj hF hz
    have hN1 := hN.row hF
    refine bl_X10_fits_1 (by decide) ?_
    rw [hN1.1]
    refine ⟨by omega, fun z => absurd z (nI_ge (by omega) (by omega)), fun _ => ⟨j, by omega, rfl, ?_⟩⟩
    rw [nar0]
    rintro μ1 e1 _ rfl
    rw [nI_1]
    refine ih (j + 1) μ1 (by omega) (by rw [e1]; exact hF.put _ _) (fun z hk => ?_)
    rw [e1, gsI_row]
    show (if z = j then (0 : Int32) else μ.1 766 0 z) = 0
    split
    · rfl
    · exact hz z (by omega)
theorem c_X10_fits (hd : 9 ≤ d) (h : nM μ n A S dy) (hT : tvM μ n (eMen A) T) (hO : tvOk n (eMen A) T) (hN : ntM μ kn N) (hNO : ntOk (eMen A) kn N) : Ctr l D d yX10_fits cX10_fits 6 (some .int) [.ref (D.2.2 10 0), .int x1, .int x2] μ (pI (fun v μ' => v = fitsF N kn A n T (wtM μ) x1 x2 ∧ mvF μ μ')) := by
  have h5 := h.men
  refine en_X10_fits (fun Γ => bl_X10_fits_0 (by decide) ?_)
  rintro μ1 e1
  have hF0 : mqF μ μ1 := by rw [e1]; exact h.th.1
  have h1 : nM μ1 n A S dy := by rw [e1]; exact h.th.2
  clear e1
  have en : isn x2 (μ1.1 707 0 1) = 0 ↔ ¬ isM n x2 := by
    rw [h1.1.1.2.1]
    have := h1.1.1.2.2.1
    exact isn_man (by omega)
  rw [h1.isn, en]
  refine ⟨by omega, fun z => ⟨by rw [fitsF, if_neg (fun w => z w.1)], hF0.v⟩, fun z1 => ⟨by omega, fun z2 => ?_, fun z => ⟨by rw [fitsF, if_neg (fun w => z w.2)], hF0.v⟩⟩⟩
  have z1 := Decidable.not_not.mp z1
  have z2 := Decidable.not_not.mp z2
  obtain ⟨m1, m2⟩ := isM_ix z1
  obtain ⟨n1, n2⟩ := isM_ix z2
  rintro _ rfl _ rfl
  refine fitsM_1 (A := A) (by omega) (hN.mq hF0) hNO ?_ kn 0 μ1 (by omega) rowF.rf (fun z hz => by omega)
  intro μ2 hF2 hf2
  have hV2 : mvF μ1 μ2 := ⟨fun k j _ _ _ _ hk => hF2.1 k j (fun w => hk w.1), fun k a b z _ => by rw [hF2.1 k 0 (by omega)], fun k a b z _ => by rw [hF2.1 k 0 (by omega)], fun z _ => by rw [hF2.1 751 0 (by omega)], fun j _ _ _ => by rw [hF2.1 10 0 (by omega)], by rw [hF2.2], fun k j _ _ => by rw [hF2.2]⟩
  refine fitsM_4 (kn := kn) (N := N) (by omega) ((hN.mq hF0).row hF2) hf2 ?_ kn 0 0 (by omega) rfl
  have hG := hF0.v.tr hV2
  have := fitsM_6 (l := l) (D := D) (d := d) (Γ := Γ) (q := fun v μ' => v = fitsF N kn A n T (wtM μ) x1 x2 ∧ mvF μ μ') (n := n) (A := A) (S := S) (dy := dy) (N := N) (kn := kn) (T := T) (man := ix x1) (deed := ix x2) (v := fitsF N kn A n T (wtM μ) x1 x2) (x3 := lstL N kn kn 0 0) (μ0 := μ2) (by omega) (hT.mv hG) hO ((hN.mq hF0).row hF2) hNO hf2 m2 n2 rfl (fun μ' a => ⟨rfl, hG.tr a.v⟩) 10 0 μ2 0 (by omega) mqF.rf (h.mv hG) (by rw [wtM.mv hG, fitsF, if_pos ⟨z1, z2⟩])
  rw [← m1, ← n1] at this
  exact this
end Q7M
