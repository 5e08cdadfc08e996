/-! Laws.workOut -/
def ck (k v : Int32) : Int32 × Int32 := if k = 34 then (0, v) else if iw k 14 20 = 0 then (2, sgk k) else (1, k - 14)
def evFr (t : Nat) (μ μ' : gMem) : Prop := μ'.1 = μ.1 ∧ μ'.2.2 = μ.2.2 ∧ ∀ k i, ¬ (k = 196 ∧ i = t) → ¬ (k = 2 ∧ i = t) → μ'.2.1 k i = μ.2.1 k i
theorem evFr.rf {t : Nat} {μ : gMem} : evFr t μ μ := ⟨rfl, rfl, fun _ _ _ _ => rfl⟩
theorem evFr.put {t : Nat} {μ μ' : gMem} (h : evFr t μ μ') (j : Nat) (v : Int64) : evFr t μ (gsL μ' 196 t j v) := by
  refine ⟨h.1, h.2.1, fun k i h1 h2 => ?_⟩
  show u3 μ'.2.1 196 t j v k i = _
  rw [u3_row _ _ _ _ _ h1]
  exact h.2.2 k i h1 h2
theorem evFr.ans {t : Nat} {μ μ' : gMem} (h : evFr t μ μ') (j : Nat) (v : Int64) : evFr t μ (gsL μ' 2 t j v) := by
  refine ⟨h.1, h.2.1, fun k i h1 h2 => ?_⟩
  show u3 μ'.2.1 2 t j v k i = _
  rw [u3_row _ _ _ _ _ h2]
  exact h.2.2 k i h1 h2
theorem gsL_row {μ : gMem} {k i j : Nat} {v : Int64} : (gsL μ k i j v).2.1 k i = fun q => if q = j then v else μ.2.1 k i q := by
  funext q
  simp [gsL, u3]
theorem sgk_260 {k : Int32} (h : sgk k = 260) : k = 13 := by
  unfold sgk at h
  repeat' split at h
  all_goals first | assumption | exact absurd h (by decide)
def qW (t : Nat) (μ0 : gMem) (E : Option (List Int64)) : Int32 → gMem → Prop := fun v μ' => evFr t μ0 μ' ∧ ((v = 0 ∧ E = none) ∨ (v = 1 ∧ ∃ z, E = some [z] ∧ μ'.2.1 2 t 9 = z ∧ inL z))
set_option maxHeartbeats 4000000 in
theorem workOut_loop {l : Launch} {D : gD} {d : Nat} {Γ : gC} {t r a b : Nat} {μ0 : gMem} {c : Nat → Int32 × Int32} {nm : Nat → Int64} {E : Option (List Int64)} (hd : 0 < d) (ht : t < 2) (hr : r < 3) (hb : b ≤ 64) (hto : μ0.1 195 t r = nI b) (hc : ∀ i, a ≤ i → i < b → c i = ck (μ0.1 192 t i) (μ0.1 193 t i)) (hnm : ∀ n, n < 7 → μ0.2.1 197 t n = nm n) (hin : ∀ n, n < 7 → inL (nm n)) :
    ∀ (n i : Nat) (st : List Int64) (μ : gMem), a ≤ i → i + n = b → st.length ≤ i → (∀ v ∈ st, inL v) → evFr t μ0 μ → stA (μ.2.1 196 t) st → dpn c n i st.length = some 1 → evn nm c n i st = E → pt_X2_workOut_1 l D d (qW t μ0 E) Γ t (nI r) (nI st.length) (nI i) μ := by
  intro n
  induction n with
  | zero =>
    intro i st μ ha hi hl hv hF hs hdp hE
    have e1 : st.length = 1 := by
      simp only [dpn] at hdp
      exact Option.some.inj hdp
    obtain ⟨z, rfl⟩ := List.length_eq_one_iff.mp e1
    refine bl_X2_workOut_1 ht ⟨r, hr, rfl, fun _ => bl_X2_workOut_5 ht ?_, fun h => ?_⟩
    · rintro _ rfl
      refine ⟨fun h => absurd (by rw [e1]; rfl) h, fun _ => ⟨hF.ans _ _, Or.inr ⟨rfl, z, hE.symm, ?_, hv z (by simp)⟩⟩⟩
      have h0 : μ.2.1 196 t 0 = z := by simpa using hs 0 (by simp)
      rw [gsL_row, h0]
      rfl
    · rw [hF.1, hto, show i = b by omega] at h
      exact absurd (nI_le (Nat.le_refl b) (by omega)) h
  | succ n ih =>
    intro i st μ ha hi hl hv hF hs hdp hE
    have hib : i < b := by omega
    have hci := hc i ha hib
    -- what follows a knot
    have next : ∀ (st' : List Int64) (μ' : gMem), st'.length ≤ i + 1 → (∀ v ∈ st', inL v) → evFr t μ0 μ' → stA (μ'.2.1 196 t) st' → dps (c i) st.length = some st'.length → evs nm (c i) st = some st' → pt_X2_workOut_4 l D d (qW t μ0 E) Γ t (nI r) (nI st'.length) (nI i) μ' := by
      intro st' μ' h1 h2 h3 h4 h5 h6
      refine bl_X2_workOut_4 ht ?_
      rintro _ rfl
      rw [nI_1]
      refine ih (i + 1) st' μ' (by omega) (by omega) h1 h2 h3 h4 ?_ ?_
      · simp only [dpn, h5] at hdp
        exact hdp
      · simp only [evn, h6] at hE
        exact hE
    have hdp0 : ∃ k', dps (c i) st.length = some k' := by
      cases hz : dps (c i) st.length with
      | none => simp only [dpn, hz] at hdp; cases hdp
      | some k' => exact ⟨k', rfl⟩
    obtain ⟨k', hk'⟩ := hdp0
    refine bl_X2_workOut_1 ht ⟨r, hr, rfl, fun h => ?_, fun _ => ⟨fun h => ?_, fun _ => ⟨i, by omega, rfl, ?_⟩⟩⟩
    · rw [hF.1, hto] at h
      exact absurd h (nI_ge hib (by omega))
    · have h64 : nI 64 ≤ nI st.length := h
      exact absurd h64 (nI_ge (by omega) (by decide))
    · rintro _ rfl
      rw [hF.1]
      refine ⟨fun hk => ⟨hd, ?_, ?_⟩, fun hk => ?_⟩
      · -- a sign
        intro hw
        have hcs : c i = (2, sgk (μ0.1 192 t i)) := by rw [hci, ck, if_neg hk, if_pos hw]
        have go3 : ¬ μ0.1 192 t i = 13 → pt_X2_workOut_3 l D d (qW t μ0 E) Γ t (nI r) (nI st.length) (nI i) (μ0.1 192 t i) μ := by
          intro hnot
          have hs2 : ¬ sgk (μ0.1 192 t i) = 260 := fun z => hnot (sgk_260 z)
          have hlen : 1 < st.length := by
            rw [hcs] at hk'
            simp only [dps, if_neg (show ¬ (2 : Int32) = 0 by decide), if_neg (show ¬ (2 : Int32) = 1 by decide), if_pos (show (2 : Int32) = 2 by rfl), if_neg hs2] at hk'
            by_cases hz : 1 < st.length
            · exact hz
            · rw [if_neg hz] at hk'; cases hk'
          obtain ⟨y, st1, rfl⟩ : ∃ y st1, st = y :: st1 := by
            cases st with
            | nil => simp at hlen
            | cons y st1 => exact ⟨y, st1, rfl⟩
          obtain ⟨x, st2, rfl⟩ : ∃ x st2, st1 = x :: st2 := by
            cases st1 with
            | nil => simp at hlen
            | cons x st2 => exact ⟨x, st2, rfl⟩
          simp only [List.length_cons] at hl hlen ⊢
          have hy := stA_top hs
          have hx := stA_top (stA_pop hs)
          simp only [List.length_cons] at hy hx
          have hop := opk_opm (μ0.1 192 t i) (hv x (by simp)) (hv y (by simp))
          refine bl_X2_workOut_3 ht ⟨fun h => ?_, fun _ => ⟨st2.length, by omega, ?_, st2.length + 1, by omega, ?_, 0, _, hd, c_X2_isWorkable, ?_⟩⟩
          · have h1 : nI (st2.length + 1 + 1) ≤ nI 1 := h
            exact absurd h1 (nI_ge (by omega) (by omega))
          · exact pk_sub (a := st2.length + 1 + 1) (b := 2) (by omega)
          · exact pk_sub (a := st2.length + 1 + 1) (b := 1) (by omega)
          · rintro v μ1 ⟨rfl, rfl⟩
            rw [hy, hx, hop]
            refine ⟨fun hz => ⟨hF, Or.inl ⟨rfl, ?_⟩⟩, fun hz => ?_⟩
            · have hn : opm (sgk (μ0.1 192 t i)) x y = none := by
                cases ho : opm (sgk (μ0.1 192 t i)) x y with
                | none => rfl
                | some w => rw [ho] at hz; simp [bI] at hz
              rw [← hE]
              simp only [evn]
              rw [hcs]
              simp [evs, hs2, hn]
            · obtain ⟨w, hw2⟩ : ∃ w, opm (sgk (μ0.1 192 t i)) x y = some w := by
                cases ho : opm (sgk (μ0.1 192 t i)) x y with
                | none => rw [ho] at hz; simp [bI] at hz
                | some w => exact ⟨w, rfl⟩
              rintro _ rfl
              have e2 : nI (st2.length + 1 + 1) + (-1) = nI (st2.length + 1) := pk_m1 _
              rw [e2]
              refine ⟨st2.length, by omega, pk_sub (a := st2.length + 1) (b := 1) (by omega), st2.length + 1, by omega, rfl, 0, _, hd, c_X2_joined, ?_⟩
              rintro v μ2 ⟨hv2, rfl⟩
              rw [hy, hx] at hv2
              have ev : v = w := hv2 w (hop.trans hw2)
              subst ev
              refine ⟨st2.length, by omega, pk_sub (a := st2.length + 1) (b := 1) (by omega), ?_⟩
              rintro _ rfl
              refine next (v :: st2) _ (by simp; omega) ?_ (hF.put _ _) ?_ ?_ ?_
              · intro u hu
                rcases List.mem_cons.mp hu with rfl | hu
                · exact opm_in hw2
                · exact hv u (by simp [hu])
              · rw [gsL_row]
                exact stA_push (stA_pop (stA_pop hs)) v
              · rw [hcs]
                simp [dps, hs2]
              · rw [hcs]
                simp [evs, hs2, hw2]
        refine ⟨fun h => ?_, fun h => ⟨go3, fun hnot => ?_⟩⟩
        · refine go3 (fun hnot => ?_)
          rw [hcs, hnot] at hk'
          have hpos : 0 < st.length := by
            by_cases hz : 0 < st.length
            · exact hz
            · simp [dps, sgk, hz] at hk'
          exact absurd h (nI_nle hpos (by omega))
        · have hcs13 : c i = (2, 260) := by rw [hcs, hnot]; rfl
          have hpos : 0 < st.length := by
            by_cases hz : 0 < st.length
            · exact hz
            · rw [hcs13] at hk'
              simp [dps, hz] at hk'
          obtain ⟨y, st1, rfl⟩ : ∃ y st1, st = y :: st1 := by
            cases st with
            | nil => simp at hpos
            | cons y st1 => exact ⟨y, st1, rfl⟩
          simp only [List.length_cons] at hl ⊢
          have hy := stA_top hs
          have e3 : nI (st1.length + 1) - 1 = nI st1.length := pk_sub (a := st1.length + 1) (b := 1) (by omega)
          have put : ∀ w : Int64, w = jb (y = 0) → pt_X2_workOut_2 l D d (qW t μ0 E) Γ t (nI r) (nI (st1.length + 1)) (nI i) t (nI (st1.length + 1) - 1) w μ := by
            intro w hw9
            refine bl_X2_workOut_2 ht ht ⟨st1.length, by omega, e3, ?_⟩
            rintro _ rfl
            refine next (w :: st1) _ (by simp; omega) ?_ (hF.put _ _) ?_ ?_ ?_
            · intro u hu
              rcases List.mem_cons.mp hu with rfl | hu
              · rw [hw9]; exact inL_jb _
              · exact hv u (by simp [hu])
            · rw [gsL_row]
              exact stA_push (stA_pop hs) w
            · rw [hcs13]
              simp [dps]
            · rw [hcs13, hw9]
              simp [evs]
          refine ⟨st1.length, by omega, e3, fun h0 => ?_, fun h0 => ?_⟩
          · rw [lg_cmp_eq, hy] at h0
            exact put 0 (by simp [jb, h0])
          · rw [lg_cmp_eq, hy] at h0
            exact put 1 (by simp [jb, h0])
      · -- a name
        intro hw
        have hcs : c i = (1, μ0.1 192 t i - 14) := by rw [hci, ck, if_neg hk, if_neg hw]
        rw [hcs] at hk'
        simp only [dps, if_neg (show ¬ (1 : Int32) = 0 by decide), if_pos (show (1 : Int32) = 1 by rfl)] at hk'
        have hn7 : (μ0.1 192 t i - 14).toNatClampNeg < 7 ∧ μ0.1 192 t i - 14 = nI (μ0.1 192 t i - 14).toNatClampNeg := by
          by_cases hz : (μ0.1 192 t i - 14).toNatClampNeg < 7 ∧ μ0.1 192 t i - 14 = nI (μ0.1 192 t i - 14).toNatClampNeg
          · exact hz
          · rw [if_neg hz] at hk'; cases hk'
        refine ⟨(μ0.1 192 t i - 14).toNatClampNeg, hn7.1, hn7.2, st.length, by omega, rfl, ?_⟩
        rintro _ rfl _ rfl
        have hnv : μ.2.1 197 t (μ0.1 192 t i - 14).toNatClampNeg = nm (μ0.1 192 t i - 14).toNatClampNeg := by
          rw [hF.2.2 197 t (by omega) (by omega)]
          exact hnm _ hn7.1
        rw [hnv, nI_1]
        refine next (nm (μ0.1 192 t i - 14).toNatClampNeg :: st) _ (by simp; omega) ?_ (hF.put _ _) ?_ ?_ ?_
        · intro u hu
          rcases List.mem_cons.mp hu with rfl | hu
          · exact hin _ hn7.1
          · exact hv u hu
        · rw [gsL_row]
          exact stA_push hs _
        · rw [hcs]
          simp only [dps, if_neg (show ¬ (1 : Int32) = 0 by decide), if_pos (show (1 : Int32) = 1 by rfl)]
          rw [if_pos hn7]
          rfl
        · rw [hcs]
          simp [evs]
      · -- a number
        have hcs : c i = (0, μ0.1 193 t i) := by rw [hci, ck, if_pos hk]
        refine ⟨i, by omega, rfl, st.length, by omega, rfl, ?_⟩
        rintro _ rfl _ rfl
        rw [nI_1]
        refine next ((μ0.1 193 t i).toInt64 :: st) _ (by simp; omega) ?_ (hF.put _ _) ?_ ?_ ?_
        · intro u hu
          rcases List.mem_cons.mp hu with rfl | hu
          · exact inL_i _
          · exact hv u hu
        · rw [gsL_row]
          exact stA_push hs _
        · rw [hcs]
          simp [dps]
        · rw [hcs]
          simp [evs]
/-- workOut: the answer of the law's code; false with an error -/
theorem c_X2_workOut {l : Launch} {D : gD} {d : Nat} {t r a b : Nat} {μ : gMem} {c : Nat → Int32 × Int32} {nm : Nat → Int64} (hd : 1 ≤ d) (ht : t < 2) (hr : r < 3) (hab : a ≤ b) (hb : b ≤ 64) (hfrom : μ.1 194 t r = nI a) (hto : μ.1 195 t r = nI b) (hc : ∀ i, a ≤ i → i < b → c i = ck (μ.1 192 t i) (μ.1 193 t i)) (hnm : ∀ n, n < 7 → μ.2.1 197 t n = nm n) (hin : ∀ n, n < 7 → inL (nm n)) (hdp : dpn c (b - a) a 0 = some 1) :
    Ctr l D d yX2_workOut cX2_workOut 5 (some .boolean) [.ref (D.2.2 2 t), .int (nI r)] μ (pI (qW t μ (evn nm c (b - a) a []))) := by
  refine en_X2_workOut (fun Γ => bl_X2_workOut_0 ht ?_)
  rintro _ rfl
  refine ⟨r, hr, rfl, ?_⟩
  rintro _ rfl
  rw [hfrom]
  exact workOut_loop (by omega) ht hr hb hto hc hnm hin (b - a) a [] μ (Nat.le_refl a) (by omega) (Nat.zero_le _) (fun v hv => by simp at hv) evFr.rf (fun j hj => by simp at hj) hdp rfl
