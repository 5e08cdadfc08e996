/-! the reference's works and goes -/
def mkFr (μ μ' : gMem) : Prop := (∀ k i, ¬ (k = 10 ∧ i = 0) → μ'.1 k i = μ.1 k i) ∧ (∀ j, ¬ j = 32 → μ'.1 10 0 j = μ.1 10 0 j) ∧ μ'.2.2 = μ.2.2 ∧ ∀ k i, ¬ (k = 735 ∧ i = 0) → μ'.2.1 k i = μ.2.1 k i
theorem mkFr.rf {μ : gMem} : mkFr μ μ := ⟨fun _ _ _ => rfl, fun _ _ => rfl, rfl, fun _ _ _ => rfl⟩
theorem mkFr.put {μ μ' : gMem} (h : mkFr μ μ') (j : Nat) (v : Int64) : mkFr μ (gsL μ' 735 0 j v) := by
  refine ⟨h.1, h.2.1, h.2.2.1, fun k i h1 => ?_⟩
  show u3 μ'.2.1 735 0 j v k i = _
  rw [u3_row _ _ _ _ _ h1]
  exact h.2.2.2 k i h1
theorem mkFr.many {μ μ' : gMem} (h : mkFr μ μ') (v : Int32) : mkFr μ (gsI μ' 10 0 32 v) := by
  refine ⟨fun k i h1 => ?_, fun j hj => ?_, h.2.2.1, h.2.2.2⟩
  · show u3 μ'.1 10 0 32 v k i = _
    rw [u3_row _ _ _ _ _ h1]
    exact h.1 k i h1
  · show u3 μ'.1 10 0 32 v 10 0 j = _
    rw [u3, if_neg (fun z => hj z.2.2)]
    exact h.2.1 j hj
theorem gsI_s {μ : gMem} {k i j : Nat} {v : Int32} : (gsI μ k i j v).1 k i j = v := u3_s _ _ _ _ _
theorem jI_bI (c : Prop) [Decidable c] : jI (bI c) = jb c := by
  by_cases h : c <;> simp [jI, bI, jb, h]
def qG (μ0 : gMem) (nm : Nat → Int64) (s : Int32) (st : List Int64) : Int32 → gMem → Prop := fun v μ' => mkFr μ0 μ' ∧ ((v = 0 ∧ evs nm (2, s) st = none) ∨ (v = 1 ∧ ∃ st', evs nm (2, s) st = some st' ∧ μ'.1 10 0 32 = nI st'.length ∧ stA (μ'.2.1 735 0) st'))
set_option maxHeartbeats 4000000 in
theorem c_X10_works {l : Launch} {D : gD} {d : Nat} {μ0 μ : gMem} {nm : Nat → Int64} {s : Int32} {st : List Int64} (hd : 1 ≤ d) (hF : mkFr μ0 μ) (hm : μ.1 10 0 32 = nI st.length) (hs : stA (μ.2.1 735 0) st) (hl : st.length ≤ 64) (hp : 0 < st.length) (hp2 : ¬ s = 260 → 1 < st.length) :
    Ctr l D d yX10_works cX10_works 8 (some .boolean) [.ref (D.2.2 10 0), .int s] μ (pI (qG μ0 nm s st)) := by
  refine en_X10_works (fun Γ => ?_)
  obtain ⟨y, st1, rfl⟩ : ∃ y st1, st = y :: st1 := by
    cases st with
    | nil => simp at hp
    | cons y st1 => exact ⟨y, st1, rfl⟩
  simp only [List.length_cons] at hm hl hp2
  have hy := stA_top hs
  have e3 : μ.1 10 0 32 - 1 = nI st1.length := by rw [hm]; exact pk_sub (a := st1.length + 1) (b := 1) (by omega)
  refine bl_X10_works_0 (by decide) ⟨st1.length, by omega, e3, ?_⟩
  rintro _ rfl
  rw [hy]
  refine ⟨fun hs2 => ?_, fun hs2 => ?_⟩
  · have hp3 := hp2 hs2
    obtain ⟨x, st2, rfl⟩ : ∃ x st2, st1 = x :: st2 := by
      cases st1 with
      | nil => simp at hp3
      | cons x st2 => exact ⟨x, st2, rfl⟩
    simp only [List.length_cons] at hm hl hp3 e3
    have hx := stA_top (stA_pop hs)
    have e4 : μ.1 10 0 32 - 2 = nI st2.length := by rw [hm]; exact pk_sub (a := st2.length + 1 + 1) (b := 2) (by omega)
    refine ⟨st2.length, by omega, e4, ?_⟩
    rintro _ rfl
    rw [hx]
    rintro μ1 hμ1
    have hm1 : μ1.1 10 0 32 = nI (st2.length + 1) := by rw [hμ1, gsI_s, e3]
    have hF1 : mkFr μ0 μ1 := by rw [hμ1]; exact hF.many _
    have hs1 : stA (μ1.2.1 735 0) st2 := by rw [hμ1]; exact stA_pop (stA_pop hs)
    clear hμ1
    have hev : ∀ o, opm s x y = o → evs nm (2, s) (y :: x :: st2) = (match o with | some v => some (v :: st2) | none => none) := by
      intro o ho
      cases o <;> simp [evs, hs2, ho]
    have fin : ∀ v : Int64, opm s x y = lim v → pt_X10_works_13 l D d (qG μ0 nm s (y :: x :: st2)) Γ 0 v μ1 := by
      intro v hv
      refine bl_X10_works_13 (by decide) ⟨st2.length, by omega, by rw [hm1]; exact pk_sub (a := st2.length + 1) (b := 1) (by omega), ?_⟩
      rintro _ rfl
      simp only [lg_cmp_gt, lg_cmp_lt]
      refine ⟨fun h1 => ⟨hF1.put _ _, Or.inl ⟨rfl, ?_⟩⟩, fun h1 => ⟨fun h2 => ⟨hF1.put _ _, Or.inl ⟨rfl, ?_⟩⟩, fun h2 => ⟨hF1.put _ _, Or.inr ⟨rfl, v :: st2, ?_, hm1, ?_⟩⟩⟩⟩
      · rw [hev _ (hv.trans (by rw [lim, if_pos h1]))]
      · rw [hev _ (hv.trans (by rw [lim, if_neg h1, if_pos h2]))]
      · rw [hev _ (hv.trans (lim_in ⟨h1, h2⟩))]
      · rw [gsL_row]
        exact stA_push hs1 v
    have finb : ∀ (c : Prop) [Decidable c], opm s x y = some (jb c) → ∀ z : Int32, z = bI c → pt_X10_works_13 l D d (qG μ0 nm s (y :: x :: st2)) Γ 0 (jI z) μ1 := by
      intro c _ hc z hz
      rw [hz, jI_bI]
      exact fin _ (hc.trans (lim_in (inL_jb c)).symm)
    simp only [lg_cmp_gt, lg_cmp_lt, lg_cmp_ge, lg_cmp_le, lg_cmp_eq]
    refine ⟨fun e => ?_, fun e => ?_, fun e => ?_, fun e => ?_, fun e => ?_, fun e => ?_, fun e => ?_, fun e => ?_, fun e => ?_, fun e => ?_, fun e => ?_, fun e => ?_⟩
    · subst e
      have ho : opm 42 x y = (if ¬ x = 0 ∧ (1000000000000 : Int64) / jabs x < jabs y then none else lim (x * y)) := by simp [opm]
      refine ⟨fun h0 => bl_X10_works_2 (by decide) ?_, fun h0 => ⟨by omega, by omega, ?_, fun h1 => bl_X10_works_2 (by decide) ?_, fun h1 => ?_⟩⟩
      · rintro _ rfl
        exact fin _ (by rw [ho, if_neg (fun z => z.1 h0)])
      · intro z
        unfold jabs at z
        split at z
        · exact h0 z
        · have z2 := congrArg (fun t => -t) z
          exact h0 (by simpa using z2)
      · rintro _ rfl
        exact fin _ (by rw [ho, if_neg (fun z => absurd z.2 (Int64.not_lt.mpr h1))])
      · refine ⟨hF1, Or.inl ⟨rfl, ?_⟩⟩
        rw [hev _ (ho.trans (by rw [if_pos ⟨h0, Int64.not_le.mp h1⟩]))]
    · subst e
      rintro _ rfl
      exact fin _ (by simp [opm])
    · subst e
      rintro _ rfl
      exact fin _ (by simp [opm])
    · subst e
      refine ⟨fun h0 => ⟨h0, ?_⟩, fun h0 => ⟨hF1, Or.inl ⟨rfl, ?_⟩⟩⟩
      · rintro _ rfl
        exact fin _ (by simp [opm, h0])
      · rw [hev none (by simp [opm, h0])]
    · subst e
      have ho : opm 60 x y = some (jb (x < y)) := by simp [opm]
      refine ⟨fun h0 => bl_X10_works_3 (by decide) ⟨by omega, ?_⟩, fun h0 => bl_X10_works_3 (by decide) ⟨by omega, ?_⟩⟩ <;> rintro _ rfl
      · exact finb _ ho _ (by simp [bI, Int64.not_lt.mpr h0])
      · exact finb _ ho _ (by simp [bI, Int64.not_le.mp h0])
    · subst e
      have ho : opm 61 x y = some (jb (x = y)) := by simp [opm]
      refine ⟨fun h0 => bl_X10_works_5 (by decide) ⟨by omega, ?_⟩, fun h0 => bl_X10_works_5 (by decide) ⟨by omega, ?_⟩⟩ <;> rintro _ rfl
      · exact finb _ ho _ (by simp [bI, h0])
      · exact finb _ ho _ (by simp [bI, h0])
    · subst e
      have ho : opm 62 x y = some (jb (y < x)) := by simp [opm]
      refine ⟨fun h0 => bl_X10_works_4 (by decide) ⟨by omega, ?_⟩, fun h0 => bl_X10_works_4 (by decide) ⟨by omega, ?_⟩⟩ <;> rintro _ rfl
      · exact finb _ ho _ (by simp [bI, Int64.not_lt.mpr h0])
      · exact finb _ ho _ (by simp [bI, Int64.not_le.mp h0])
    · subst e
      have ho : opm 256 x y = some (jb (x ≤ y)) := by simp [opm]
      refine ⟨fun h0 => bl_X10_works_6 (by decide) ⟨by omega, ?_⟩, fun h0 => bl_X10_works_6 (by decide) ⟨by omega, ?_⟩⟩ <;> rintro _ rfl
      · exact finb _ ho _ (by simp [bI, Int64.not_le.mpr h0])
      · exact finb _ ho _ (by simp [bI, Int64.not_lt.mp h0])
    · subst e
      have ho : opm 257 x y = some (jb (¬ x = y)) := by simp [opm]
      refine ⟨fun h0 => bl_X10_works_8 (by decide) ⟨by omega, ?_⟩, fun h0 => bl_X10_works_8 (by decide) ⟨by omega, ?_⟩⟩ <;> rintro _ rfl
      · exact finb _ ho _ (by simp [bI, h0])
      · exact finb _ ho _ (by simp [bI, h0])
    · subst e
      have ho : opm 258 x y = some (jb (y ≤ x)) := by simp [opm]
      refine ⟨fun h0 => bl_X10_works_7 (by decide) ⟨by omega, ?_⟩, fun h0 => bl_X10_works_7 (by decide) ⟨by omega, ?_⟩⟩ <;> rintro _ rfl
      · exact finb _ ho _ (by simp [bI, Int64.not_le.mpr h0])
      · exact finb _ ho _ (by simp [bI, Int64.not_lt.mp h0])
    · subst e
      have ho : opm 261 x y = some (jb (¬ x = 0 ∧ ¬ y = 0)) := by simp [opm]
      have z0 : (x = 0 ∨ y = 0) → pt_X10_works_9 l D d (qG μ0 nm 261 (y :: x :: st2)) Γ 0 μ1 := by
        intro h0
        refine bl_X10_works_9 (by decide) (bl_X10_works_10 (by decide) ⟨by omega, ?_⟩)
        rintro _ rfl
        exact finb _ ho _ (by rcases h0 with h0 | h0 <;> simp [bI, h0])
      refine ⟨fun h0 => z0 (Or.inl h0), fun h0 => ⟨fun h1 => z0 (Or.inr h1), fun h1 => bl_X10_works_10 (by decide) ⟨by omega, ?_⟩⟩⟩
      rintro _ rfl
      exact finb _ ho _ (by simp [bI, h0, h1])
    · obtain ⟨e1, e2, e3, e4, e5, e6, e7, e8, e9, e10, e11⟩ := e
      have ho : opm s x y = some (jb (¬ x = 0 ∨ ¬ y = 0)) := by simp [opm, e1, e2, e3, e4, e5, e6, e7, e8, e9, e10, e11]
      have z1 : (¬ x = 0 ∨ ¬ y = 0) → pt_X10_works_11 l D d (qG μ0 nm s (y :: x :: st2)) Γ 0 μ1 := by
        intro h0
        refine bl_X10_works_11 (by decide) (bl_X10_works_12 (by decide) ⟨by omega, ?_⟩)
        rintro _ rfl
        exact finb _ ho _ (by simp [bI]; intro q1 q2; rcases h0 with h0 | h0 <;> contradiction)
      refine ⟨fun h0 => z1 (Or.inl h0), fun h0 => ⟨fun h1 => bl_X10_works_12 (by decide) ⟨by omega, ?_⟩, fun h1 => z1 (Or.inr h1)⟩⟩
      rintro _ rfl
      exact finb _ ho _ (by simp [bI, h0, h1])
  · subst hs2
    have put : ∀ z : Int32, z = bI (y = 0) → pt_X10_works_1 l D d (qG μ0 nm 260 (y :: st1)) Γ 0 (μ.1 10 0 32 - 1) z μ := by
      intro z hz
      refine bl_X10_works_1 (by decide) ⟨by omega, st1.length, by omega, e3, ?_⟩
      rintro _ rfl
      refine ⟨hF.put _ _, Or.inr ⟨rfl, jb (y = 0) :: st1, by simp [evs], ?_, ?_⟩⟩
      · show μ.1 10 0 32 = _
        rw [hm]
        rfl
      · rw [gsL_row, hz, jI_bI]
        exact stA_push (stA_pop hs) _
    simp only [lg_cmp_eq]
    exact ⟨fun h0 => put 0 (by simp [bI, h0]), fun h0 => put 1 (by simp [bI, h0])⟩
def qE (μ0 : gMem) (E : Option (List Int64)) : Int32 → gMem → Prop := fun v μ' => mkFr μ0 μ' ∧ ((v = 0 ∧ E = none) ∨ (v = 1 ∧ ∃ z, E = some [z] ∧ μ'.2.1 735 0 0 = z))
set_option maxHeartbeats 4000000 in
theorem goes_loop {l : Launch} {D : gD} {d : Nat} {Γ : gC} {r a b : Nat} {μ0 : gMem} {c : Nat → Int32 × Int32} {nm : Nat → Int64} {E : Option (List Int64)} (hd : 2 ≤ d) (hr : r < 6) (hb : b ≤ 64) (hto : μ0.1 718 0 r = nI b) (hc : ∀ i, a ≤ i → i < b → c i = (μ0.1 719 0 i, μ0.1 720 0 i)) (hnm : ∀ n, n < 7 → μ0.2.1 734 0 n = nm n) :
    ∀ (n i : Nat) (st : List Int64) (μ : gMem), a ≤ i → i + n = b → st.length ≤ i → mkFr μ0 μ → μ.1 10 0 32 = nI st.length → stA (μ.2.1 735 0) st → dpn c n i st.length = some 1 → evn nm c n i st = E → pt_X10_goes_1 l D d (qE μ0 E) Γ 0 (nI r) (nI i) μ := by
  intro n
  induction n with
  | zero =>
    intro i st μ ha hi hl hF hm hs hdp hE
    have e1 : st.length = 1 := by
      simp only [dpn] at hdp
      exact Option.some.inj hdp
    obtain ⟨z, rfl⟩ := List.length_eq_one_iff.mp e1
    refine bl_X10_goes_1 (by decide) ⟨r, hr, rfl, fun _ => ⟨hF, Or.inr ⟨rfl, z, hE.symm, ?_⟩⟩, fun h => ?_⟩
    · simpa using hs 0 (by simp)
    · rw [hF.1 718 0 (by omega), hto, show i = b by omega] at h
      exact absurd (nI_le (Nat.le_refl b) (by omega)) h
  | succ n ih =>
    intro i st μ ha hi hl hF hm hs hdp hE
    have hib : i < b := by omega
    have hci := hc i ha hib
    have g719 := hF.1 719 0 (by omega)
    have g720 := hF.1 720 0 (by omega)
    have next : ∀ (st' : List Int64) (μ' : gMem), st'.length ≤ i + 1 → mkFr μ0 μ' → μ'.1 10 0 32 = nI st'.length → stA (μ'.2.1 735 0) st' → dps (c i) st.length = some st'.length → evs nm (c i) st = some st' → pt_X10_goes_3 l D d (qE μ0 E) Γ 0 (nI r) (nI i) μ' := by
      intro st' μ' h1 h3 hm' h4 h5 h6
      refine bl_X10_goes_3 (by decide) ?_
      rintro _ rfl
      rw [nI_1]
      refine ih (i + 1) st' μ' (by omega) (by omega) h1 h3 hm' h4 ?_ ?_
      · simp only [dpn, h5] at hdp
        exact hdp
      · simp only [evn, h6] at hE
        exact hE
    have push : ∀ x : Int64, dps (c i) st.length = some (st.length + 1) → evs nm (c i) st = some (x :: st) → pt_X10_goes_2 l D d (qE μ0 E) Γ 0 (nI r) (nI i) 0 (μ.1 10 0 32) x μ := by
      intro x h5 h6
      refine bl_X10_goes_2 (by decide) (by decide) ⟨st.length, by omega, hm, ?_⟩
      rintro _ rfl _ rfl
      refine next (x :: st) _ (by simp; omega) ((hF.put _ _).many _) ?_ ?_ h5 h6
      · rw [gsI_s]
        show μ.1 10 0 32 + 1 = _
        rw [hm, nI_1]
        rfl
      · show stA ((gsL μ 735 0 st.length x).2.1 735 0) (x :: st)
        rw [gsL_row]
        exact stA_push hs x
    have hdp0 : ∃ k', dps (c i) st.length = some k' := by
      cases hz : dps (c i) st.length with
      | none => simp only [dpn, hz] at hdp; cases hdp
      | some k' => exact ⟨k', rfl⟩
    obtain ⟨k', hk'⟩ := hdp0
    refine bl_X10_goes_1 (by decide) ⟨r, hr, rfl, fun h => ?_, fun _ => ⟨i, by omega, rfl, fun h2 => ⟨i, by omega, rfl, fun h3 => ?_, fun h3 => ?_⟩, fun h2 => ⟨i, by omega, rfl, ?_⟩⟩⟩
    · rw [hF.1 718 0 (by omega), hto] at h
      exact absurd h (nI_ge hib (by omega))
    · -- a name
      rw [g719] at h2 h3
      have h1 : μ0.1 719 0 i = 1 := by
        rw [hci] at hk'
        simp only [dps, if_neg h3, if_neg h2] at hk'
        by_cases hz : μ0.1 719 0 i = 1
        · exact hz
        · rw [if_neg hz] at hk'; cases hk'
      have hcs : c i = (1, μ0.1 720 0 i) := by rw [hci, h1]
      rw [hcs] at hk'
      simp only [dps, if_neg (show ¬ (1 : Int32) = 0 by decide), if_pos (show (1 : Int32) = 1 by rfl)] at hk'
      have hn7 : (μ0.1 720 0 i).toNatClampNeg < 7 ∧ μ0.1 720 0 i = nI (μ0.1 720 0 i).toNatClampNeg := by
        by_cases hz : (μ0.1 720 0 i).toNatClampNeg < 7 ∧ μ0.1 720 0 i = nI (μ0.1 720 0 i).toNatClampNeg
        · exact hz
        · rw [if_neg hz] at hk'; cases hk'
      refine ⟨i, by omega, rfl, (μ0.1 720 0 i).toNatClampNeg, hn7.1, by rw [g720]; exact hn7.2, ?_⟩
      rw [hF.2.2.2 734 0 (by omega), hnm _ hn7.1]
      refine push _ ?_ ?_
      · rw [hcs]
        simp only [dps, if_neg (show ¬ (1 : Int32) = 0 by decide), if_pos (show (1 : Int32) = 1 by rfl)]
        rw [if_pos hn7]
        rfl
      · rw [hcs]
        simp [evs]
    · -- a number
      rw [g719] at h3
      have hcs : c i = (0, μ0.1 720 0 i) := by rw [hci, h3]
      refine ⟨i, by omega, rfl, ?_⟩
      rw [g720]
      refine push _ ?_ ?_
      · rw [hcs]
        simp [dps]
      · rw [hcs]
        simp [evs]
    · -- a sign
      rw [g719] at h2
      have hcs : c i = (2, μ0.1 720 0 i) := by rw [hci, h2]
      rw [hcs] at hk'
      have hp : 0 < st.length ∧ (¬ μ0.1 720 0 i = 260 → 1 < st.length) ∧ (μ0.1 720 0 i = 260 → k' = st.length) ∧ (¬ μ0.1 720 0 i = 260 → k' = st.length - 1) := by
        by_cases h9 : μ0.1 720 0 i = 260
        · simp [dps, h9] at hk'
          exact ⟨hk'.1, fun z => absurd h9 z, fun _ => hk'.2.symm, fun z => absurd h9 z⟩
        · simp [dps, h9] at hk'
          exact ⟨by omega, fun _ => hk'.1, fun z => absurd z h9, fun _ => hk'.2.symm⟩
      refine ⟨1, _, by omega, by rw [g720]; exact c_X10_works (nm := nm) (Nat.le_refl 1) hF hm hs (by omega) hp.1 hp.2.1, ?_⟩
      rintro v μ1 ⟨hF1, hv⟩
      rcases hv with ⟨rfl, hn⟩ | ⟨rfl, st', hst', hm', hs'⟩
      · refine ⟨fun z => absurd rfl z, fun _ => ⟨hF1, Or.inl ⟨rfl, ?_⟩⟩⟩
        rw [← hE]
        simp only [evn]
        rw [hcs, hn]
      · refine ⟨fun _ => ?_, fun z => absurd z (by decide)⟩
        have hlen : st'.length = k' := by
          by_cases h9 : μ0.1 720 0 i = 260
          · rw [hp.2.2.1 h9]
            cases st with
            | nil => simp at hp
            | cons y st1 =>
              rw [h9] at hst'
              simp [evs] at hst'
              rw [← hst']
              rfl
          · rw [hp.2.2.2 h9]
            cases st with
            | nil => simp at hp
            | cons y st1 =>
              cases st1 with
              | nil => simp [h9] at hp
              | cons x st2 =>
                simp only [evs, if_neg (show ¬ (2 : Int32) = 0 by decide), if_neg (show ¬ (2 : Int32) = 1 by decide), if_neg h9] at hst'
                cases ho : opm (μ0.1 720 0 i) x y with
                | none => rw [ho] at hst'; cases hst'
                | some w => rw [ho] at hst'; cases hst'; simp
        have hk9 : k' ≤ st.length := by
          by_cases h9 : μ0.1 720 0 i = 260
          · rw [hp.2.2.1 h9]; omega
          · rw [hp.2.2.2 h9]; omega
        refine next st' μ1 (by omega) hF1 hm' hs' ?_ ?_
        · rw [hcs, hk', hlen]
        · rw [hcs, hst']
theorem c_X10_goes {l : Launch} {D : gD} {d : Nat} {r a b : Nat} {μ : gMem} {c : Nat → Int32 × Int32} {nm : Nat → Int64} (hd : 2 ≤ d) (hr : r < 6) (hab : a ≤ b) (hb : b ≤ 64) (hfrom : μ.1 717 0 r = nI a) (hto : μ.1 718 0 r = nI b) (hc : ∀ i, a ≤ i → i < b → c i = (μ.1 719 0 i, μ.1 720 0 i)) (hnm : ∀ n, n < 7 → μ.2.1 734 0 n = nm n) (hdp : dpn c (b - a) a 0 = some 1) :
    Ctr l D d yX10_goes cX10_goes 3 (some .boolean) [.ref (D.2.2 10 0), .int (nI r)] μ (pI (qE μ (evn nm c (b - a) a []))) := by
  refine en_X10_goes (fun Γ => bl_X10_goes_0 (by decide) ?_)
  rintro _ rfl
  refine ⟨r, hr, rfl, ?_⟩
  rintro _ rfl
  have hF : mkFr μ (gsI μ 10 0 32 0) := mkFr.rf.many _
  rw [hF.1 717 0 (by omega), hfrom]
  exact goes_loop (by omega) hr hb hto hc hnm (b - a) a [] _ (Nat.le_refl a) (by omega) (Nat.zero_le _) hF gsI_s (fun j hj => by simp at hj) hdp rfl
