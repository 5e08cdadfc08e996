/-! days by numbers: chance, go -/
def nxd (rain x : Int32) : Int32 := if rain = 0 then x else drw x
def wtF (rain x : Int32) : Int32 := if rain = 0 then 0 else wtD rain (drw x)
def nxF (rain : Int32) : Nat → Int32 → Int32
  | 0, x => x
  | c + 1, x => nxd rain (nxF rain c x)
noncomputable def runD (A : wEnv) (rain : Int32) (dy : Nat) (S : pplS) (x : Int32) : Nat → pplS
  | 0 => S
  | c + 1 => stp A (wtF rain (nxF rain c x)) (dy + c) (runD A rain dy S x c)
def wdF (rain x w : Int32) : Nat → Int32
  | 0 => w
  | c + 1 => if wtF rain (nxF rain c x) = 0 then wdF rain x w c else wdF rain x w c + 1
theorem nI_tn (k : Nat) : (nI k).toBitVec.toNat = k % 2 ^ 32 := rfl
theorem lN_tn (k : Nat) : (lN k).toBitVec.toNat = k % 2 ^ 64 := rfl
theorem nI_and31 (k : Nat) : nI k &&& (2147483647 : Int32) = nI (k % 2 ^ 31) := by
  rw [pk_and _ 31 (by decide), nI_tn, Nat.mod_mod_of_dvd _ (by decide)]
theorem lN_and31 (k : Nat) : lN k &&& (2147483647 : Int64) = lN (k % 2 ^ 31) := by
  apply Int64.toBitVec_inj.mp
  apply BitVec.eq_of_toNat_eq
  have hm : (2147483647 : Int64).toBitVec.toNat = 2 ^ 31 - 1 := by decide
  rw [Int64.toBitVec_and, BitVec.toNat_and, hm, Nat.and_two_pow_sub_one_eq_mod, lN_tn, lN_tn, Nat.mod_mod_of_dvd _ (by decide), Nat.mod_eq_of_lt (a := k % 2 ^ 31)]
  have := Nat.mod_lt k (show 0 < 2 ^ 31 by decide)
  omega
theorem drw_ex (n : Nat) : ∃ r : Nat, r < 2 ^ 31 ∧ drw (nI n) = nI r ∧ (((lN n * (1103515245 : Int64)) + (12345 : Int64)) &&& (2147483647 : Int64)) = lN r := by
  have h1 : ∀ b : Nat, ∀ c : Nat, ∃ r : Nat, r < 2 ^ 31 ∧ ((nI n * nI b + nI c) &&& (2147483647 : Int32)) = nI r ∧ ((lN n * lN b + lN c) &&& (2147483647 : Int64)) = lN r := fun b c => ⟨(n * b + c) % 2 ^ 31, Nat.mod_lt _ (by decide), by rw [pk_mul, nI_add, nI_and31], by rw [lN_mul, lN_add, lN_and31]⟩
  exact h1 1103515245 12345
theorem drw_rng {x : Int32} : 0 ≤ (drw x).toInt := by
  have h := pk_and ((x * (1103515245 : Int32)) + (12345 : Int32)) (m := 2147483647) 31 (by decide)
  have h2 := Nat.mod_lt ((x * (1103515245 : Int32)) + (12345 : Int32)).toBitVec.toNat (show 0 < 2 ^ 31 by decide)
  unfold drw
  rw [h, nI_toInt (by omega)]
  omega
theorem nxd_rng {rain x : Int32} (h : 0 ≤ x.toInt) : 0 ≤ (nxd rain x).toInt := by
  unfold nxd
  split
  · exact h
  · exact drw_rng
theorem nxF_rng {rain x : Int32} (h : 0 ≤ x.toInt) : ∀ c, 0 ≤ (nxF rain c x).toInt := by
  intro c
  induction c with
  | zero => exact h
  | succ c ih => exact nxd_rng ih
theorem stp_9 {A : wEnv} {wet : Int32} {dy p : Nat} {S : pplS} (hp : pln A) (hm : p < eMen A) : stp A wet dy S p 9 = 0 := by
  have h9 : midS A wet dy S p 9 = 0 := by
    obtain ⟨S', e1, e2⟩ := mid_row (A := A) (wet := wet) (dy := dy) (S := S) hm
    have on : eOn A p := by show A.2.2.2.2.2.2 p = true; rw [hp]
    rw [e2, if_pos on]
    rfl
  unfold stp
  split
  · unfold potF
    rw [if_neg (by omega), if_neg (by omega)]
    exact h9
  · exact h9
theorem okS_runD {A : wEnv} {e dy : Nat} {S : pplS} {rain x : Int32} (hA : okA A) (he : e ≤ 2000) (h : okS A e S dy) : ∀ c, dy + c ≤ 100000 → okS A e (runD A rain dy S x c) (dy + c) := by
  intro c
  induction c with
  | zero => intro _; exact h
  | succ c ih =>
    intro hc
    exact okS_stp hA he (by omega) (ih (by omega))
section DW
variable {l : Launch} {D : gD} {d : Nat} {μ : gMem}
theorem c_X8_drawsWet {w : Nat} {rain x : Int32} (hw : w < 3) (hx : 0 ≤ x.toInt) (hn : μ.2.1 8 w 3 = x.toInt64) : Ctr l D d yX8_drawsWet cX8_drawsWet 2 (some .boolean) [.ref (D.2.2 8 w), .int rain] μ (pI (fun v μ' => v = wtF rain x ∧ μ'.1 = μ.1 ∧ μ'.2.2 = μ.2.2 ∧ (∀ k j, ¬ (k = 8 ∧ j = w) → μ'.2.1 k j = μ.2.1 k j) ∧ μ'.2.1 8 w 3 = (nxd rain x).toInt64)) := by
  have hxi := ix_nI hx
  have hlt : ix x < 2 ^ 31 := by
    have := Int32.toInt_lt x
    unfold ix
    omega
  generalize hk : ix x = k at hxi hlt
  subst hxi
  obtain ⟨r, hr, er, el⟩ := drw_ex k
  have hr3 : r / 65536 % 100 < 100 := Nat.mod_lt _ (by decide)
  refine en_X8_drawsWet (fun Γ => bl_X8_drawsWet_0 hw ⟨fun h0 => ?_, fun h0 => ?_⟩)
  · rintro μ1 e
    have e3 : μ1.2.1 8 w 3 = lN r := by
      rw [e, gsL_row, hn, nI_l hlt]
      exact el
    have nx : nxd rain (nI k) = nI r := by rw [nxd, if_neg h0, er]
    generalize hm : r / 65536 % 100 = m at hr3
    have wt : wtF rain (nI k) = if rain ≤ nI m then 0 else 1 := by
      rw [wtF, if_neg h0, er, wtD, pk_shrN hr _ 16 (by decide), show (100 : Int32) = nI 100 from rfl, pk_rem (by omega) (by omega) (by omega), ← hm]
    have fin : μ1.1 = μ.1 ∧ μ1.2.2 = μ.2.2 ∧ (∀ k j, ¬ (k = 8 ∧ j = w) → μ1.2.1 k j = μ.2.1 k j) ∧ μ1.2.1 8 w 3 = (nxd rain (nI k)).toInt64 := by
      refine ⟨by rw [e]; rfl, by rw [e]; rfl, fun k j hkj => ?_, ?_⟩
      · rw [e]
        show u3 μ.2.1 8 w 3 _ k j = _
        rw [u3_row _ _ _ _ _ hkj]
      · rw [e3, nx, nI_l hr]
    have ed : lN r / (65536 : Int64) = lN (r / 65536) := pk_lDiv (b := 65536) (by omega) (by omega) (by omega)
    have em : lN (r / 65536) - lN (r / 65536) / (100 : Int64) * (100 : Int64) = lN m := by
      rw [← hm]
      exact pk_lRem (b := 100) (by omega) (by omega) (by omega)
    rw [e3] at fin
    rw [e3, lg_cmp_ge, ed, em]
    have key : rain.toInt64 ≤ lN m ↔ rain ≤ nI m := by
      rw [Int64.le_iff_toInt_le, i32_le, Int32.toInt_toInt64, lN_toInt (by omega), nI_toInt (by omega)]
    rw [key, wt]
    refine ⟨fun z => ⟨?_, fin⟩, fun z => ⟨?_, fin⟩⟩
    · rw [if_pos z]
    · rw [if_neg z]
  · exact ⟨by rw [wtF, if_pos h0], rfl, rfl, fun _ _ _ => rfl, by rw [nxd, if_pos h0]; exact hn⟩
end DW
theorem wC.I {μ μ' : gMem} {t n w e dy : Nat} {A : wEnv} {S : pplS} (hI : μ'.1 = μ.1) (h : wC μ t n w A e S dy) : wC μ' t n w A e S dy := by
  unfold wC tC LawC jk at h ⊢
  rw [hI]
  exact h
theorem lkC.I {μ μ' : gMem} {t n man dy : Nat} {A : wEnv} {b : Int32} {S : pplS} (hI : μ'.1 = μ.1) (h : lkC μ t n A b man S dy) : lkC μ' t n A b man S dy := by
  obtain ⟨h0, S1, h1, h2⟩ := h
  exact ⟨h0, S1, h1.I hI, h2⟩
theorem nC.I {μ μ' : gMem} {t n dy : Nat} {A : wEnv} {S : pplS} (hI : μ'.1 = μ.1) (hR : μ'.2.2 = μ.2.2) (h : nC μ t n A S dy) : nC μ' t n A S dy := ⟨by rw [hR]; exact h.1, h.2.1, h.2.2.1.I hI, h.2.2.2⟩
theorem lkR.stp {A : wEnv} {b : Int32} {man dy : Nat} {wet : Int32} {S1 S : pplS} (h : lkR A b man S1 S) (hp : pln A) (hA : okA A) (hN : b = 0 → noBh A.1.1 A.1.2.1 A.1.2.2) (hm : man < eMen A) : lkR A b man (stp (lkA A b man) wet dy S1) (stp A wet dy S) := by
  refine ⟨fun hb k hk => ?_, fun hb => ?_⟩
  · rw [lkA_b hp hb]
    exact stp_men (h.1 hb) k hk
  · subst hb
    exact look_step hp hA (hN rfl) hm (h.2 rfl)
noncomputable def chL (A : wEnv) (rain : Int32) (dy : Nat) (S : pplS) (man m : Nat) (row : Int32) : Nat → Int32 → Int32 → Int32
  | 0, _, a => a
  | c + 1, x, a => chL A rain dy S man m row c (nxF rain m x) (if runD A rain dy S x m man 2 < row then a else a + 1)
noncomputable def chanceF (A : wEnv) (rain : Int32) (dy : Nat) (S : pplS) (x1 x2 x3 x4 : Int32) : Int32 := if 0 ≤ x1.toInt ∧ inR x2 1 60 ∧ isM (eMen A) x3 ∧ inR x4 0 99 then chL A rain dy S (ix x3) (ix x2) x4 10 x1 0 else -1
section Q5
variable {l : Launch} {D : gD} {d : Nat} {μ : gMem} {t n dy : Nat} {A : wEnv} {S : pplS} {x1 x2 x3 x4 : Int32}
theorem k_day {man dy1 : Nat} {b wet : Int32} {S1 : pplS} (hd : 5 ≤ d) (h : nC μ t n A S dy) (hm : man < eMen A) (hw : lkC μ t n A b man S1 dy1) (hb : b = 0 → noBh A.1.1 A.1.2.1 A.1.2.2) (hdm : dy1 < 100000) : Ctr l D d yX8_passDay cX8_passDay 4 none [.ref (D.2.2 8 2), .ref (D.2.2 7 t), .int wet] μ (pV (fun μ' => cqF μ μ' ∧ nC μ' t n A S dy ∧ lkC μ' t n A b man (stp A wet dy1 S1) (dy1 + 1) ∧ μ'.2.1 8 2 3 = μ.2.1 8 2 3)) := by
  obtain ⟨h0, S2, h1, h2⟩ := hw
  have hA := h.2.2.1.2.1
  refine (d_X8_passDay hd (by decide) h.2.1 h1 (by omega) hdm).mono ?_
  rintro r μ' ⟨⟨rfl⟩, hF, a2, -, -⟩
  refine ⟨rfl, hF.cq, h.cq hF.cq a2.2.2.2.2.1.2, ⟨okS_stp hA (by omega) hdm h0, _, a2, h2.stp h.2.2.2.1 hA hb hm⟩, ?_⟩
  rw [hF.2.2.2 8 2 (by omega) (by omega) (by omega)]
theorem chanceC_in {Γ : gC} {q : Int32 → gMem → Prop} {man m k : Nat} {rain b a x : Int32} (hd : 7 ≤ d) (hm : man < eMen A) (h5 : eMen A ≤ 5) (hmm : m ≤ 60) (hdy : dy ≤ 9900) (hx : 0 ≤ x.toInt) (hb : b = 0 → noBh A.1.1 A.1.2.1 A.1.2.2) {μ0 : gMem} (hr : μ0.1 7 t 16 = rain)
    (hq : ∀ μ', cqF μ0 μ' → nC μ' t n A S dy → lkC μ' t n A b man (runD A rain dy S x m) (dy + m) → μ'.2.1 8 2 3 = (nxF rain m x).toInt64 → pt_X9_chance_2 l D d q Γ 0 (nI m) (nI man) x4 a (nI k) (10 + man) (nI m) μ') :
    ∀ (c j : Nat) (μ : gMem), j + c = m → cqF μ0 μ → nC μ t n A S dy → lkC μ t n A b man (runD A rain dy S x j) (dy + j) → μ.2.1 8 2 3 = (nxF rain j x).toInt64 → pt_X9_chance_2 l D d q Γ 0 (nI m) (nI man) x4 a (nI k) (10 + man) (nI j) μ := by
  intro c
  induction c with
  | zero =>
    intro j μ hj hF hn hl hx2
    obtain rfl : j = m := by omega
    exact hq μ hF hn hl hx2
  | succ c ih =>
    intro j μ hj hF hn hl hx2
    have e7 : μ.1 7 t 16 = rain := by rw [hF.1 7 t (by omega) (by omega)]; exact hr
    refine bl_X9_chance_2 (by decide) (by omega) ⟨fun z => absurd z (nI_ge (by omega) (by omega)), fun _ => ?_⟩
    rw [hn.1, e7]
    refine ⟨hn.2.1, hn.2.1, 0, _, by omega, c_X8_drawsWet (by decide) (nxF_rng hx j) hx2, ?_⟩
    rintro v μ1 ⟨rfl, i1, i2, i3, i4⟩
    have hF1 : cqF μ μ1 := ⟨fun k j _ _ => by rw [i1], i2, fun k j a _ _ _ => i3 k j a⟩
    have hl1 := hl.I i1
    have hn1 := hn.I i1 i2
    refine ⟨5, _, by omega, k_day (by omega) hn1 hm hl1 hb (by omega), ?_⟩
    rintro μ2 ⟨hF2, hn2, hl2, e3⟩ _ rfl
    rw [nI_1]
    exact ih (j + 1) μ2 (by omega) (hF.tr (hF1.tr hF2)) hn2 hl2 (by rw [e3, i4]; rfl)
theorem chanceC_loop {Γ : gC} {q : Int32 → gMem → Prop} {man m : Nat} {rain v : Int32} {μ0 : gMem} (hd : 7 ≤ d) (hm : man < eMen A) (h5 : eMen A ≤ 5) (hmm : m ≤ 60) (hdy : dy ≤ 9900) (hr : μ0.1 7 t 16 = rain) (hq : ∀ μ', cqF μ0 μ' → jk μ' → q v μ') :
    ∀ (c k : Nat) (μ : gMem) (x a : Int32), k + c = 10 → 0 ≤ x.toInt → cqF μ0 μ → nC μ t n A S dy → chL A rain dy S man m x4 c x a = v → pt_X9_chance_1 l D d q Γ 0 (nI m) (nI man) x4 x.toInt64 a (nI k) μ := by
  have e10 : (10 : Int32) = nI 10 := rfl
  intro c
  induction c with
  | zero =>
    intro k μ x a hk hx hF hn hv
    refine bl_X9_chance_1 (by decide) ⟨fun _ => ?_, fun z => absurd (by rw [e10]; exact nI_le (by omega) (by omega)) z⟩
    rw [show a = v from hv]
    exact hq μ hF hn.jk
  | succ c ih =>
    intro k μ x a hk hx hF hn hv
    refine bl_X9_chance_1 (by decide) ⟨fun z => absurd z (by rw [e10]; exact nI_ge (by omega) (by omega)), fun _ => ⟨6, _, by omega, k_lookAhead rfl (by omega) hn hm, ?_⟩⟩
    rintro r μ1 _ ⟨rfl, hF1, hn1, hl1⟩ μ2 e2 _ rfl
    have i1 : μ2.1 = μ1.1 := by rw [e2]; rfl
    have i2 : μ2.2.2 = μ1.2.2 := by rw [e2]; rfl
    have i3 : ∀ k j, ¬ (k = 8 ∧ j = 2) → μ2.2.1 k j = μ1.2.1 k j := by
      intro k j hkj
      rw [e2]
      show u3 μ1.2.1 8 2 3 _ k j = _
      rw [u3_row _ _ _ _ _ hkj]
    have hF2 : cqF μ1 μ2 := ⟨fun k j _ _ => by rw [i1], i2, fun k j a _ _ _ => i3 k j a⟩
    have x2 : μ2.2.1 8 2 3 = x.toInt64 := by rw [e2, gsL_row]; rfl
    have hG := hF.tr (hF1.tr hF2)
    have er : μ2.1 7 t 16 = rain := by rw [hG.1 7 t (by omega) (by omega)]; exact hr
    refine chanceC_in (μ0 := μ2) (rain := rain) (x := x) (b := μ.1 2 t 8) (S := S) (A := A) hd hm h5 hmm hdy hx hn.nobh er ?_ m 0 μ2 (by omega) cqF.rf (hn1.I i1 i2) (hl1.I i1) x2
    intro μ3 hF3 hn3 hl3 x3
    rw [chL] at hv
    refine bl_X9_chance_2 (by decide) (by omega) ⟨fun _ => ?_, fun z => absurd (nI_le (Nat.le_refl _) (by omega)) z⟩
    rintro _ rfl
    rw [x3, hl3.at hm h5 (by omega)]
    refine ⟨fun z => bl_X9_chance_3 (by decide) ?_, fun z => ?_⟩
    · rintro _ rfl
      rw [nI_1]
      rw [if_pos z] at hv
      exact ih (k + 1) μ3 _ _ (by omega) (nxF_rng hx m) (hG.tr hF3) hn3 hv
    · rintro _ rfl
      refine bl_X9_chance_3 (by decide) ?_
      rintro _ rfl
      rw [nI_1]
      rw [if_neg z] at hv
      exact ih (k + 1) μ3 _ _ (by omega) (nxF_rng hx m) (hG.tr hF3) hn3 hv
theorem c_X9_chance (hd : 7 ≤ d) (h : nC μ t n A S dy) : Ctr l D d yX9_chance cX9_chance 11 (some .int) [.ref (D.2.2 9 0), .int x1, .int x2, .int x3, .int x4] μ (pI (fun v μ' => v = chanceF A (μ.1 7 t 16) dy S x1 x2 x3 x4 ∧ cqF μ μ' ∧ jk μ')) := by
  have h5 := h.men
  have hdy := h.2.2.2.2.1
  refine en_X9_chance (fun Γ => bl_X9_chance_0 (by decide) ?_)
  rw [lt0, h.1, h.iw, iw_lit (x := x2) (za := 1) (zb := 60) (by decide) (by decide), iw_lit (x := x4) (za := 0) (zb := 99) (by decide) (by decide)]
  refine ⟨fun z => ⟨by rw [chanceF, if_neg (fun w => by have := w.1; omega)], cqF.rf, h.jk⟩, fun z0 => ⟨by omega, fun z => ⟨by rw [chanceF, if_neg (fun w => z w.2.1)], cqF.rf, h.jk⟩, fun z1 => ⟨by omega, h.2.1, fun z => ⟨by rw [chanceF, if_neg (fun w => z w.2.2.1)], cqF.rf, h.jk⟩, fun z2 => ⟨by omega, fun z3 => ?_, fun z => ⟨by rw [chanceF, if_neg (fun w => z w.2.2.2)], cqF.rf, h.jk⟩⟩⟩⟩⟩
  have z1 := Decidable.not_not.mp z1
  have z2 := Decidable.not_not.mp z2
  have z3 := Decidable.not_not.mp z3
  obtain ⟨m1, m2⟩ := isM_ix z2
  obtain ⟨n1, n2⟩ := inR_ix (b := 60) (x := x2) ⟨by omega, z1.2⟩
  rintro _ rfl _ rfl _ rfl
  have := chanceC_loop (l := l) (D := D) (d := d) (Γ := Γ) (q := fun v μ' => v = chanceF A (μ.1 7 t 16) dy S x1 x2 x3 x4 ∧ cqF μ μ' ∧ jk μ') (t := t) (n := n) (A := A) (S := S) (dy := dy) (x4 := x4) (man := ix x3) (m := ix x2) (μ0 := μ) (rain := μ.1 7 t 16) (v := chanceF A (μ.1 7 t 16) dy S x1 x2 x3 x4) hd m2 h5 n2 hdy rfl (fun μ' a b => ⟨rfl, a, b⟩) 10 0 μ x1 0 (by omega) (by omega) cqF.rf h (by rw [chanceF, if_pos ⟨by omega, z1, z2, z3⟩])
  rw [← n1, ← m1] at this
  exact this
end Q5
section Q5M
variable {l : Launch} {D : gD} {d : Nat} {μ : gMem} {n e dy : Nat} {A : wEnv} {S : pplS} {x1 x2 x3 x4 : Int32}
/-- a day by numbers -/
theorem d_draw {m : Nat} {rain x : Int32} (hd : 5 ≤ d) (hw : m < 23) (h : wM μ n m A e S dy) (he : e ≤ 2000) (hdy : dy < 100000) (h51 : μ.1 10 0 51 = 0) (hr : μ.1 707 0 7 = rain) (hr0 : 0 ≤ rain.toInt) (hx : μ.1 739 0 m = x) : Ctr l D d yX10_passes cX10_passes 6 none [.ref (D.2.2 10 0), .int (nI m), .int (1 : Int32)] μ (pV (fun μ' => mwFr m μ μ' ∧ wM μ' n m A e (stp A (wtF rain x) dy S) (dy + 1) ∧ μ'.1 739 0 m = nxd rain x ∧ μ'.1 738 0 m = (if wtF rain x = 0 then μ.1 738 0 m else μ.1 738 0 m + 1))) := by
  have od : odM μ = rain := by unfold odM; rw [if_neg (by rw [h51]; decide), hr]
  have by0 : byN μ 1 ↔ ¬ rain = 0 := by
    unfold byN
    rw [od, i32_le, i32_0]
    refine ⟨fun z w => z.2 (by rw [w, i32_0]; omega), fun z => ⟨by decide, fun w => z (Int32.toInt_inj.mp (by rw [i32_0]; omega))⟩⟩
  have ew : wtF rain x = (if byN μ 1 then wtD (odM μ) (drw (μ.1 739 0 m)) else wtG (odM μ)) := by
    by_cases h0 : rain = 0
    · rw [if_neg (fun w => by0.mp w h0), od, wtF, if_pos h0, h0]
      rfl
    · rw [if_pos (by0.mpr h0), od, hx, wtF, if_neg h0]
  refine (d_X10_passes (m := m) (b := 1) hd hw h he hdy _ ew).mono ?_
  rintro r μ' ⟨⟨rfl⟩, hF, hw2, h39, h38, -⟩
  refine ⟨rfl, hF, hw2, ?_, h38⟩
  rw [h39, hx]
  by_cases h0 : rain = 0
  · rw [if_neg (fun w => by0.mp w h0), nxd, if_pos h0]
  · rw [if_pos (by0.mpr h0), nxd, if_neg h0]
theorem chanceM_in {Γ : gC} {q : Int32 → gMem → Prop} {man m k : Nat} {rain a x : Int32} (hd : 7 ≤ d) (he : e ≤ 2000) (hmm : m ≤ 60) (hdy : dy ≤ 9900) {μ0 : gMem} (h51 : μ0.1 10 0 51 = 0) (hr : μ0.1 707 0 7 = rain) (hr0 : 0 ≤ rain.toInt)
    (hq : ∀ μ', mqF μ0 μ' → wM μ' n 1 A e (runD A rain dy S x m) (dy + m) → μ'.1 739 0 1 = nxF rain m x → pt_X10_chance_2 l D d q Γ 0 (nI m) (nI man) x4 a (nI k) (nI m) μ') :
    ∀ (c j : Nat) (μ : gMem), j + c = m → mqF μ0 μ → wM μ n 1 A e (runD A rain dy S x j) (dy + j) → μ.1 739 0 1 = nxF rain j x → pt_X10_chance_2 l D d q Γ 0 (nI m) (nI man) x4 a (nI k) (nI j) μ := by
  intro c
  induction c with
  | zero =>
    intro j μ hj hF hw hx2
    obtain rfl : j = m := by omega
    exact hq μ hF hw hx2
  | succ c ih =>
    intro j μ hj hF hw hx2
    have g51 : μ.1 10 0 51 = 0 := by rw [hF.2.2.2.2.1 51 (by omega) (by omega) (by omega)]; exact h51
    have g7 : μ.1 707 0 7 = rain := by rw [hF.1 707 0 (by omega) (by omega)]; exact hr
    refine bl_X10_chance_2 (by decide) ⟨fun z => absurd z (nI_ge (by omega) (by omega)), fun _ => ⟨5, _, by omega, d_draw (m := 1) (by omega) (by decide) hw he (by omega) g51 g7 hr0 hx2, ?_⟩⟩
    rintro μ1 ⟨hF1, hw1, x1, -⟩ _ rfl
    rw [nI_1]
    exact ih (j + 1) μ1 (by omega) (hF.tr hF1.mq) hw1 x1
theorem chanceM_loop {Γ : gC} {q : Int32 → gMem → Prop} {man m : Nat} {rain v : Int32} {μ0 : gMem} (hd : 7 ≤ d) (hm : man < eMen A) (h5 : eMen A ≤ 5) (hmm : m ≤ 60) (hdy : dy ≤ 9900) (hr : μ0.1 707 0 7 = rain) (hr0 : 0 ≤ rain.toInt) (hq : ∀ μ', mqF μ0 μ' → q v μ') :
    ∀ (c k : Nat) (μ : gMem) (x a : Int32), k + c = 10 → mqF μ0 μ → nM μ n A S dy → chL A rain dy S man m x4 c x a = v → pt_X10_chance_1 l D d q Γ 0 (nI m) (nI man) x4 x a (nI k) μ := by
  have e10 : (10 : Int32) = nI 10 := rfl
  intro c
  induction c with
  | zero =>
    intro k μ x a hk hF hn hv
    refine bl_X10_chance_1 (by decide) ⟨fun _ => ?_, fun z => absurd (by rw [e10]; exact nI_le (by omega) (by omega)) z⟩
    rw [show a = v from hv]
    exact hq μ hF
  | succ c ih =>
    intro k μ x a hk hF hn hv
    refine bl_X10_chance_1 (by decide) ⟨fun z => absurd z (by rw [e10]; exact nI_ge (by omega) (by omega)), fun _ => ⟨6, _, by omega, c_X10_copies (a := 1) (b := 0) (by decide) (by decide) (by decide), ?_⟩⟩
    rintro _ rfl μ2 e2 _ rfl
    have hF2 : mqF μ μ2 := by rw [e2]; exact mcp_mq.put (by omega)
    have hw2 : wM μ2 n 1 A 0 S dy := by
      have hw1 := mcp_wM (a := 1) hn.1
      obtain ⟨hT, hA, ⟨hg, hpl, hon⟩, hps, hrr, hS, hdy1⟩ := hw1
      have g : ∀ k, ¬ k = 739 → μ2.1 k 0 = (mcp μ 1 0).1 k 0 := fun k hk => by rw [e2, gsI_off (by omega)]
      refine ⟨hT.of (g _ (by omega)) (g _ (by omega)) (g _ (by omega)) (g _ (by omega)) (g _ (by omega)) (g _ (by omega)), hA, ⟨?_, ?_, hon⟩, fun p hp => ?_, fun p hp => ?_, hS, ?_⟩
      · unfold gnM; rw [g 10 (by omega)]; exact hg
      · unfold plM; rw [g 10 (by omega)]; exact hpl
      · unfold prM
        rw [g 10 (by omega), g 713 (by omega), g 714 (by omega), g 751 (by omega)]
        exact hps p hp
      · rw [g 747 (by omega), peM_cong (μ' := μ2) (μ := mcp μ 1 0) (i' := 5 * 1 + p) (fun z h1 h2 => by rw [g z (by omega)]) (by rw [g 10 (by omega)])]
        exact hrr p hp
      · rw [g 737 (by omega)]; exact hdy1
    have x2 : μ2.1 739 0 1 = x := by rw [e2, gsI_s]
    have hG := hF.tr hF2
    have g51 : μ2.1 10 0 51 = 0 := by rw [hF2.2.2.2.2.1 51 (by omega) (by omega) (by omega)]; exact hn.2.2.2.1
    have g7 : μ2.1 707 0 7 = rain := by rw [hG.1 707 0 (by omega) (by omega)]; exact hr
    refine chanceM_in (μ0 := μ2) (rain := rain) (x := x) (e := 0) (S := S) (A := A) hd (by omega) hmm hdy g51 g7 hr0 ?_ m 0 μ2 (by omega) mqF.rf hw2 x2
    intro μ3 hF3 hw3 x3
    rw [chL] at hv
    refine bl_X10_chance_2 (by decide) ⟨fun _ => ?_, fun z => absurd (nI_le (Nat.le_refl _) (by omega)) z⟩
    rintro _ rfl
    refine ⟨5 + man, by omega, ix5c man, ?_⟩
    have a1 : μ3.1 742 0 (5 + man) = _ := hw3.at hm (j := 2) (by omega)
    rw [a1, x3]
    have hn3 := hn.mq (hF2.tr hF3)
    refine ⟨fun z => bl_X10_chance_3 (by decide) ?_, fun z => bl_X10_chance_3 (by decide) ?_⟩
    · rintro _ rfl _ rfl
      rw [nI_1, Int32.add_zero]
      rw [if_pos z] at hv
      exact ih (k + 1) μ3 _ _ (by omega) (hG.tr hF3) hn3 hv
    · rintro _ rfl _ rfl
      rw [nI_1]
      rw [if_neg z] at hv
      exact ih (k + 1) μ3 _ _ (by omega) (hG.tr hF3) hn3 hv
theorem c_X10_chance (hd : 7 ≤ d) (h : nM μ n A S dy) (hr0 : 0 ≤ (μ.1 707 0 7).toInt) : Ctr l D d yX10_chance cX10_chance 9 (some .int) [.ref (D.2.2 10 0), .int x1, .int x2, .int x3, .int x4] μ (pI (fun v μ' => v = chanceF A (μ.1 707 0 7) dy S x1 x2 x3 x4 ∧ mqF μ μ')) := by
  have h5 := h.men
  have hdy := h.2.2.1
  refine en_X10_chance (fun Γ => bl_X10_chance_0 (by decide) ?_)
  rintro μ1 rfl
  obtain ⟨hF0, h1⟩ := h.th
  have g7 : (gsI μ 10 0 0 0).1 707 0 7 = μ.1 707 0 7 := by rw [gsI_off (by omega)]
  rw [h1.isn, lt0, lt0, ltL (z := 1) (by decide), gtL (z := 60) (by decide), leL (z := 99) (by decide)]
  refine ⟨fun z => ⟨by rw [chanceF, if_neg (fun w => by have := w.1; omega)], hF0⟩, fun z0 => ⟨fun z => ⟨by rw [chanceF, if_neg (fun w => by have := w.2.1; omega)], hF0⟩, fun z1 => ⟨fun z => ⟨by rw [chanceF, if_neg (fun w => by have := w.2.1; omega)], hF0⟩, fun z2 => ⟨by omega, fun z => ⟨by rw [chanceF, if_neg (fun w => z w.2.2.1)], hF0⟩, fun z3 => ⟨fun z => ⟨by rw [chanceF, if_neg (fun w => by have := w.2.2.2; omega)], hF0⟩, fun z4 => ⟨fun z5 => ?_, fun z => ⟨by rw [chanceF, if_neg (fun w => by have := w.2.2.2; omega)], hF0⟩⟩⟩⟩⟩⟩⟩
  have z3 := Decidable.not_not.mp z3
  have y1 : inR x2 1 60 := by omega
  have y2 : inR x4 0 99 := by omega
  obtain ⟨m1, m2⟩ := isM_ix z3
  obtain ⟨n1, n2⟩ := inR_ix (b := 60) (x := x2) ⟨by omega, y1.2⟩
  rintro _ e5 _ rfl _ rfl
  rw [e5]
  have := chanceM_loop (l := l) (D := D) (d := d) (Γ := Γ) (q := fun v μ' => v = chanceF A (μ.1 707 0 7) dy S x1 x2 x3 x4 ∧ mqF μ μ') (n := n) (A := A) (S := S) (dy := dy) (x4 := x4) (man := ix x3) (m := ix x2) (μ0 := gsI μ 10 0 0 0) (rain := μ.1 707 0 7) (v := chanceF A (μ.1 707 0 7) dy S x1 x2 x3 x4) hd m2 h5 n2 hdy g7 hr0 (fun μ' a => ⟨rfl, hF0.tr a⟩) 10 0 _ x1 0 (by omega) mqF.rf h1 (by rw [chanceF, if_pos ⟨by omega, y1, z3, y2⟩])
  rw [← n1, ← m1] at this
  exact this
end Q5M
