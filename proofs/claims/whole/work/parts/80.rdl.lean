/-! the levels of the reference's formula against the machine -/
def stopP (s : Nat) (k : Int32) (b : Bool) : Prop := (s ≤ 6 → ¬ inR k 29 30) ∧ (s ≤ 5 → ¬ inR k 27 28) ∧ (s ≤ 3 → inR k 21 26 → b = true) ∧ (s ≤ 2 → ¬ k = 12) ∧ (s ≤ 1 → ¬ k = 11)
def rdOk (lg : Nat → Int32) (tb : Nat → Nat) (L s t : Nat) (W : List Int32) (cm : Nat → Bool) (o p : Nat) (nm : Bool) (c : cdT) (f n : Nat) (μ' : gMem) (p' : Nat) (P : List Int32) (cm' : Nat → Bool) (nm' : Bool) (c' : cdT) (f' n' : Nat) : Prop :=
  rmM lg tb L μ' p' (em P c' f') o n' ∧ (∀ k, k ∈ P → s ≤ str k) ∧ fmK (P ++ W) o f' n' ∧ (p < p' ∧ p' ≤ L) ∧ stopP t (tkK lg tb L p') (cm' o) ∧ (∀ j, j < o → cm' j = cm j) ∧ (4 ≤ s → cm' o = cm o) ∧ (f < (em P c' f').2 ∧ ∀ i, i < f → (em P c' f').1 i = c i) ∧ (∀ h, dpn (em P c' f').1 ((em P c' f').2 - f) f h = some (h + 1)) ∧ n ≤ n' ∧ ∀ m, L < p + m → ∃ m', L < p' + m' ∧ syR lg tb L m p W cm o true nm c f n = syR lg tb L m' p' (P ++ W) cm' o false nm' c' f' n'
def rdBad (lg : Nat → Int32) (tb : Nat → Nat) (L : Nat) (W : List Int32) (cm : Nat → Bool) (o p : Nat) (nm : Bool) (c : cdT) (f n : Nat) (μ' : gMem) : Prop := ∃ k p', flM μ' k p' ∧ ∀ m, L < p + m → syR lg tb L m p W cm o true nm c f n = some (.inl (k, p'))
def rdQ (lg : Nat → Int32) (tb : Nat → Nat) (L s : Nat) (W : List Int32) (cm : Nat → Bool) (o p : Nat) (nm : Bool) (c : cdT) (f n : Nat) (μ μ' : gMem) : Prop := rdF μ μ' ∧ (rdBad lg tb L W cm o p nm c f n μ' ∨ ∃ p' P cm' nm' c' f' n', rdOk lg tb L s s W cm o p nm c f n μ' p' P cm' nm' c' f' n')
def preP (s : Nat) (W : List Int32) (nm b : Bool) (k : Int32) : Prop := topLt (if s = 3 then 4 else s) W ∧ (s ≤ 3 → nm = true ∧ b = false) ∧ (4 ≤ s → nm = true → ¬ k = 13)
/-- a level's contract -/
def lvC (l : Launch) (D : gD) (lg : Nat → Int32) (tb : Nat → Nat) (L : Nat) (y : MethodName) (cc : ByteArray) (nL s o lo d : Nat) : Prop := ∀ (μ : gMem) (p : Nat) (W : List Int32) (cm : Nat → Bool) (nm : Bool) (c : cdT) (f n : Nat), lo ≤ n → rmM lg tb L μ p (c, f) o n → fmK W o f n → p ≤ L → preP s W nm (cm o) (tkK lg tb L p) → Ctr l D d y cc nL none [.ref (D.2.2 10 0)] μ (pV (rdQ lg tb L s W cm o p nm c f n μ))
theorem op_sg {b : Bool} {k : Int32} (h : opP b k) : ck k 0 = (2, sgk k) ∧ (∀ i, dps (ck k 0) (i + 2) = some (i + 1)) ∧ 1 ≤ str k := by
  obtain ⟨a1, a2, a3, a4, a5⟩ := op_ne h
  have e : ck k 0 = (2, sgk k) := wSg_ck ⟨a5, fun z => a1 (Or.inr z)⟩
  have n60 : ¬ sgk k = 260 := by
    have all : ∀ j, j < 31 → 21 ≤ j → ¬ sgk (nI j) = 260 := by decide
    have fi : ∀ lo hi : Int, 21 ≤ lo → hi ≤ 30 → inR k lo hi → ¬ sgk k = 260 := by
      intro lo hi h1 h2 hk
      have k1 := hk.1
      have k2 := hk.2
      obtain ⟨ei, el⟩ := isM_ix (m := 31) (x := k) ⟨by omega, by omega⟩
      have hge : 21 ≤ ix k := by
        have : (nI (ix k)).toInt = (ix k : Int) := nI_toInt (by omega)
        rw [← ei] at this
        omega
      rw [ei]
      exact all _ el hge
    rcases h with rfl | rfl | h | ⟨h, -⟩
    · decide
    · decide
    · exact fi 27 30 (by omega) (by omega) h
    · exact fi 21 26 (by omega) (by omega) h
  refine ⟨e, fun i => ?_, ?_⟩
  · rw [e]
    unfold dps
    rw [if_neg (show ¬ (2 : Int32) = 0 by decide), if_neg (show ¬ (2 : Int32) = 1 by decide), if_pos rfl, if_neg n60, if_pos (by omega)]
    rfl
  · by_cases z : 1 ≤ str k
    · exact z
    · exact absurd (str_0 (by omega)) a2
theorem cmN_o {cm : Nat → Bool} {o : Nat} {k : Int32} : ∀ j, j < o → cmN cm o k j = cm j := by
  intro j hj
  unfold cmN upB
  split
  · show (if j = o then true else cm j) = cm j
    rw [if_neg (by omega)]
  · split
    · show (if j = o then false else cm j) = cm j
      rw [if_neg (by omega)]
    · rfl
section RL
variable {l : Launch} {D : gD} {d : Nat} {lg : Nat → Int32} {tb : Nat → Nat} {L : Nat} {p o n : Nat} {c : cdT} {f : Nat} {W : List Int32} {cm : Nat → Bool} {nm : Bool} {k : Int32} {s s1 t1 s2 p1 f1 n1 : Nat} {P1 : List Int32} {cm1 : Nat → Bool} {nm1 : Bool} {c1 : cdT} {μ1 : gMem}
theorem rd_chain (h : rdOk lg tb L s1 t1 W cm o p nm c f n μ1 p1 P1 cm1 nm1 c1 f1 n1) (hk : tkK lg tb L p1 = k) (hop : opP (cm1 o) k) (he : str k ≤ s1) (hW : topLt (str k) W) (hn : n1 < 64) : ∀ m, L < p + m → ∃ m', L < nxP lg tb L p1 + m' ∧ syR lg tb L m p W cm o true nm c f n = syR lg tb L m' (nxP lg tb L p1) (k :: W) (cmN cm1 o k) o true (decide (str k ≤ 3)) (em P1 c1 f1).1 (em P1 c1 f1).2 (n1 + 1) := by
  intro m hm
  obtain ⟨h1, h2, h3, h4, -, -, -, -, -, -, hs⟩ := h
  obtain ⟨m1, g1, e1⟩ := hs m hm
  obtain ⟨m2, rfl⟩ : ∃ m2, m1 = m2 + 1 := ⟨m1 - 1, by omega⟩
  have hlt : p1 < L := can_end (w := false) (nm := nm1) (cb := cm1 o) (o := o) (by rw [hk]; exact Or.inr ⟨rfl, Or.inr ⟨(op_ne hop).2.2.1, hop⟩⟩)
  have := nxP_gt (lg := lg) (tb := tb) hlt
  refine ⟨m2, by omega, ?_⟩
  rw [e1, sy_op hk hop (fun x hx => Nat.le_trans he (h2 x hx)) hW hn]
theorem rd_bad (h : rdOk lg tb L s1 t1 W cm o p nm c f n μ1 p1 P1 cm1 nm1 c1 f1 n1) (hk : tkK lg tb L p1 = k) (hop : opP (cm1 o) k) (hn : n1 = 64) {μ2 : gMem} (hf : flM μ2 2 p1) : rdBad lg tb L W cm o p nm c f n μ2 := by
  obtain ⟨h1, h2, h3, h4, -, -, -, -, -, -, hs⟩ := h
  refine ⟨2, p1, hf, fun m hm => ?_⟩
  obtain ⟨m1, g1, e1⟩ := hs m hm
  obtain ⟨m2, rfl⟩ : ∃ m2, m1 = m2 + 1 := ⟨m1 - 1, by omega⟩
  rw [e1, sy_full hk hop hn]
theorem rd_join {p2 f2 n2 t2 : Nat} {P2 : List Int32} {cm2 : Nat → Bool} {nm2 : Bool} {c2 : cdT} {μ2 μ3 : gMem} (h : rdOk lg tb L s1 t1 W cm o p nm c f n μ1 p1 P1 cm1 nm1 c1 f1 n1) (hk : tkK lg tb L p1 = k) (hop : opP (cm1 o) k) (he : str k ≤ s1) (hW : topLt (str k) W) (hn : n1 < 64) (hs : s ≤ str k) (hs2 : s ≤ s2) (hcm : 4 ≤ s → cmN cm1 o k = cm1 ∧ 4 ≤ s1 ∧ 4 ≤ s2)
    (h2 : rdOk lg tb L s2 t2 (k :: W) (cmN cm1 o k) o (nxP lg tb L p1) (decide (str k ≤ 3)) (em P1 c1 f1).1 (em P1 c1 f1).2 (n1 + 1) μ2 p2 P2 cm2 nm2 c2 f2 n2) (h3 : rmM lg tb L μ3 p2 (upC (em P2 c2 f2).1 (em P2 c2 f2).2 (ck k 0), (em P2 c2 f2).2 + 1) o n2) : rdOk lg tb L s t2 W cm o p nm c f n μ3 p2 (P2 ++ [k]) cm2 nm2 c2 f2 n2 := by
  have hch := rd_chain h hk hop he hW hn
  have hlt : p1 < L := can_end (w := false) (nm := nm1) (cb := cm1 o) (o := o) (by rw [hk]; exact Or.inr ⟨rfl, Or.inr ⟨(op_ne hop).2.2.1, hop⟩⟩)
  have hgt := nxP_gt (lg := lg) (tb := tb) hlt
  obtain ⟨-, -, -, a4, -, a6, a7, a8, a9, a10, -⟩ := h
  obtain ⟨b1, b2, b3, b4, b5, b6, b7, b8, b9, b10, b11⟩ := h2
  have eE : em (P2 ++ [k]) c2 f2 = (upC (em P2 c2 f2).1 (em P2 c2 f2).2 (ck k 0), (em P2 c2 f2).2 + 1) := by rw [em_app]; rfl
  have eA : P2 ++ [k] ++ W = P2 ++ k :: W := by rw [List.append_assoc]; rfl
  unfold rdOk
  rw [eE, eA]
  refine ⟨h3, fun x hx => ?_, b3, ⟨by omega, b4.2⟩, b5, fun j hj => by rw [b6 j hj, cmN_o j hj]; exact a6 j hj, fun z => ?_, ⟨by show f < (em P2 c2 f2).2 + 1; have := a8.1; have := b8.1; omega, fun i hi => ?_⟩, fun x => ?_, by omega, fun m hm => ?_⟩
  · rcases List.mem_append.mp hx with w | w
    · exact Nat.le_trans hs2 (b2 x w)
    · rw [List.mem_singleton.mp w]; exact hs
  · obtain ⟨e1, e2, e3⟩ := hcm z
    rw [b7 e3, e1]
    exact a7 e2
  · have q1 := a8.1
    have q2 := b8.1
    show upC (em P2 c2 f2).1 (em P2 c2 f2).2 (ck k 0) i = c i
    rw [upC, if_neg (by omega), b8.2 i (by omega)]
    exact a8.2 i hi
  · show dpn (upC (em P2 c2 f2).1 (em P2 c2 f2).2 (ck k 0)) ((em P2 c2 f2).2 + 1 - f) f x = some (x + 1)
    have q1 := a8.1
    have q2 := b8.1
    generalize hF1 : (em P1 c1 f1).2 = F1 at *
    generalize hF2 : (em P2 c2 f2).2 = F2 at *
    rw [show F2 + 1 - f = (F1 - f) + ((F2 - F1) + 1) by omega, dpn_app, dpn_cong (c' := (em P1 c1 f1).1) (F1 - f) f x (fun j j1 j2 => by rw [upC, if_neg (by omega)]; exact b8.2 j (by omega)), a9 x]
    show dpn _ (F2 - F1 + 1) (f + (F1 - f)) (x + 1) = some (x + 1)
    rw [show f + (F1 - f) = F1 by omega, dpn_app, dpn_cong (c' := (em P2 c2 f2).1) (F2 - F1) F1 (x + 1) (fun j j1 j2 => by rw [upC, if_neg (by omega)]), b9 (x + 1)]
    show dpn _ 1 (F1 + (F2 - F1)) (x + 1 + 1) = some (x + 1)
    rw [show F1 + (F2 - F1) = F2 by omega, dpn, upC, if_pos rfl, (op_sg hop).2.1 x]
    rfl
  · obtain ⟨m1, g1, e1⟩ := hch m hm
    obtain ⟨m2, g2, e2⟩ := b11 m1 g1
    exact ⟨m2, g2, by rw [e1, e2]⟩
theorem rd_badS {μ2 : gMem} (h : rdOk lg tb L s1 t1 W cm o p nm c f n μ1 p1 P1 cm1 nm1 c1 f1 n1) (hk : tkK lg tb L p1 = k) (hop : opP (cm1 o) k) (he : str k ≤ s1) (hW : topLt (str k) W) (hn : n1 < 64) (h2 : rdBad lg tb L (k :: W) (cmN cm1 o k) o (nxP lg tb L p1) (decide (str k ≤ 3)) (em P1 c1 f1).1 (em P1 c1 f1).2 (n1 + 1) μ2) : rdBad lg tb L W cm o p nm c f n μ2 := by
  obtain ⟨x, p', hf, hs⟩ := h2
  refine ⟨x, p', hf, fun m hm => ?_⟩
  obtain ⟨m1, g1, e1⟩ := rd_chain h hk hop he hW hn m hm
  rw [e1]
  exact hs m1 g1
/-- one sign and its other side -/
theorem rd_body {y : MethodName} {cc : ByteArray} {nL dS : Nat} {μ0 : gMem} {NEXT : gMem → Prop} {x1 : Int32} (hd : 4 ≤ d) (hdS : dS < d) (hWd : WordC l D lg)
    (hsub : lvC l D lg tb L y cc nL s2 o 0 dS) (nsub : ∀ μ, ¬ μ.1 10 0 24 = 0 → Ctr l D dS y cc nL none [.ref (D.2.2 10 0)] μ (pV (fun μ' => μ' = μ)))
    (F1 : rdF μ0 μ1) (h : rdOk lg tb L s1 t1 W cm o p nm c f n μ1 p1 P1 cm1 nm1 c1 f1 n1) (hk : tkK lg tb L p1 = k) (hop : opP (cm1 o) k) (he : str k ≤ s1) (hW : topLt (str k) W) (hs : s ≤ str k) (hs2 : s ≤ s2) (hcm : 4 ≤ s → cmN cm1 o k = cm1 ∧ 4 ≤ s1 ∧ 4 ≤ s2) (hsg : x1 = sgk k) (hpre : preP s2 (k :: W) (decide (str k ≤ 3)) (cmN cm1 o k o) (tkK lg tb L (nxP lg tb L p1)))
    (hOK : ∀ μ' p2 P2 cm2 nm2 c2 f2 n2, rdF μ0 μ' → p1 < p2 → (4 ≤ s2 → cm2 o = cmN cm1 o k o) → rdOk lg tb L s s2 W cm o p nm c f n μ' p2 P2 cm2 nm2 c2 f2 n2 → NEXT μ') (hBad : ∀ μ', rdF μ0 μ' → ¬ μ'.1 10 0 24 = 0 → rdBad lg tb L W cm o p nm c f n μ' → NEXT μ') :
    ∃ (d_2 : Nat) (q_3 : gMem → Prop), d_2 < d ∧ Ctr l D d_2 yX10_knot cX10_knot 1 none [.ref (D.2.2 10 0)] μ1 (pV q_3) ∧ ∀ (μ_6 : gMem), q_3 μ_6 → ∃ (d_9 : Nat) (q_10 : gMem → Prop), d_9 < d ∧ Ctr l D d_9 yX10_goOn cX10_goOn 1 none [.ref (D.2.2 10 0)] μ_6 (pV q_10) ∧ ∀ (μ_13 : gMem), q_10 μ_13 → ∃ (d_16 : Nat) (q_17 : gMem → Prop), d_16 < d ∧ Ctr l D d_16 y cc nL none [.ref (D.2.2 10 0)] μ_13 (pV q_17) ∧ ∀ (μ_20 : gMem), q_17 μ_20 → ∃ (d_23 : Nat) (q_24 : gMem → Prop), d_23 < d ∧ Ctr l D d_23 yX10_puts cX10_puts 3 none [.ref (D.2.2 10 0), .int (2 : Int32), .int x1] μ_20 (pV q_24) ∧ ∀ (μ_27 : gMem), q_24 μ_27 → NEXT μ_27 := by
  have hr := h.1
  have hK := h.2.2.1
  have hpL := h.2.2.2.1.2
  have hn64 := hK.2.1
  refine ⟨1, _, by omega, c_X10_knot (by omega) hn64 hr, ?_⟩
  rintro μ6 ⟨F6, bad, ok⟩
  have bd : ∀ μ2, rdF μ0 μ2 → ¬ μ2.1 10 0 24 = 0 → rdBad lg tb L W cm o p nm c f n μ2 → ∃ (d_23 : Nat) (q_24 : gMem → Prop), d_23 < d ∧ Ctr l D d_23 yX10_puts cX10_puts 3 none [.ref (D.2.2 10 0), .int (2 : Int32), .int x1] μ2 (pV q_24) ∧ ∀ (μ_27 : gMem), q_24 μ_27 → NEXT μ_27 := by
    intro μ2 F2 n2 b2
    refine ⟨0, _, by omega, n_puts n2, ?_⟩
    rintro μ3 e3
    rw [e3]
    exact hBad μ2 F2 n2 b2
  by_cases hn : n1 = 64
  · have fl := bad hn
    have nz : ¬ μ6.1 10 0 24 = 0 := by rw [fl.2.1]; exact fl.1
    refine ⟨0, _, by omega, n_goOn nz, ?_⟩
    rintro μ13 e13
    rw [e13]
    refine ⟨dS, _, hdS, nsub μ6 nz, ?_⟩
    rintro μ20 e20
    rw [e20]
    exact bd μ6 (F1.tr F6) nz (rd_bad h hk hop hn fl)
  · have r6 := ok hn
    refine ⟨3, _, by omega, c_X10_goOn (by omega) hWd hpL r6, ?_⟩
    rintro μ13 ⟨F13, r13⟩
    have hlt : p1 < L := can_end (w := false) (nm := nm1) (cb := cm1 o) (o := o) (by rw [hk]; exact Or.inr ⟨rfl, Or.inr ⟨(op_ne hop).2.2.1, hop⟩⟩)
    have hgt := nxP_gt (lg := lg) (tb := tb) hlt
    have hrel := rel_em hW P1 c1 f1 (fun x hx => Nat.le_trans he (h.2.1 x hx))
    have h1s := (op_sg hop).2.2
    have hrc := rel_cn h1s (P1 ++ W) c1 f1
    rw [hrel] at hrc
    obtain ⟨k1, k2, k3, k4, k5⟩ := hK
    have n31 := (op_ne hop).2.1
    refine ⟨dS, _, hdS, hsub μ13 (nxP lg tb L p1) (k :: W) (cmN cm1 o k) (decide (str k ≤ 3)) (em P1 c1 f1).1 (em P1 c1 f1).2 (n1 + 1) (Nat.zero_le _) r13 ⟨?_, by omega, ?_, k4, fun x hx => ?_⟩ (nxP_le hpL) hpre, ?_⟩
    · rw [cnS, if_neg n31]
      have : (em P1 c1 f1).2 + cnS W = f1 + cnS (P1 ++ W) := hrc.1
      omega
    · rw [cnO, if_neg n31]
      have : cnO W = cnO (P1 ++ W) := hrc.2.1
      omega
    · rcases List.mem_cons.mp hx with e | e
      · rw [e]; exact Or.inr ⟨(op_ne hop).2.2.2.2, fun z => (op_ne hop).1 (Or.inr z)⟩
      · exact k5 x (List.mem_append.mpr (Or.inr e))
    · rintro μ20 ⟨F20, b20 | ⟨p2, P2, cm2, nm2, c2, f2, n2, ok2⟩⟩
      · have nz : ¬ μ20.1 10 0 24 = 0 := by
          obtain ⟨x, p', fl, -⟩ := b20
          rw [fl.2.1]
          exact fl.1
        exact bd μ20 (((F1.tr F6).tr F13).tr F20) nz (rd_badS h hk hop he hW (by omega) b20)
      · have hK2 := ok2.2.2.1
        have hel := em_len P2 c2 f2
        refine ⟨1, _, by omega, c_X10_puts (by omega) ?_ ok2.1, ?_⟩
        · have q1 := hK2.1
          have q2 := hK2.2.1
          -- everything that waits goes in, and the sign too
          have hrel2 := rel_cn (s := 1) (by omega) (P2 ++ k :: W) c2 f2
          have : P2.length + 1 ≤ cnS (P2 ++ k :: W) := by
            have al : ∀ Q : List Int32, (∀ x, x ∈ Q → s2 ≤ str x) → 1 ≤ s2 → Q.length + 1 ≤ cnS (Q ++ k :: W) := by
              intro Q
              induction Q with
              | nil =>
                intro _ _
                show 0 + 1 ≤ cnS (k :: W)
                rw [cnS, if_neg n31]; omega
              | cons x Q ih =>
                intro hx h2
                show Q.length + 1 + 1 ≤ cnS (x :: (Q ++ k :: W))
                rw [cnS, if_neg (str_31 (Nat.le_trans h2 (hx x List.mem_cons_self)))]
                have := ih (fun z hz => hx z (List.mem_cons_of_mem _ hz)) h2
                omega
            by_cases z : 1 ≤ s2
            · exact al P2 ok2.2.1 z
            · exfalso
              have : s2 = 0 := by omega
              subst this
              have := hpre.1 k W rfl
              rw [if_neg (by omega)] at this
              omega
          omega
        · rintro μ27 ⟨F27, r27⟩
          refine hOK μ27 p2 (P2 ++ [k]) cm2 nm2 c2 f2 n2 ((((F1.tr F6).tr F13).tr F20).tr F27) (by have := ok2.2.2.2.1.1; omega) ok2.2.2.2.2.2.2.1 (rd_join h hk hop he hW (by omega) hs hs2 hcm ok2 ?_)
          rw [hsg, ← (op_sg hop).1] at r27
          exact r27
end RL
