/-! leads, rank, falseOnes -/
def leadF (A : wEnv) (S : pplS) : Int32 := onI (ldF (fun k => S k 4) (-1) (eMen A) 0 none)
abbrev rnkP (S : pplS) (man p : Nat) : Prop := S man 4 < S p 4 ∨ S p 4 = S man 4 ∧ p < man
def rnkL (S : pplS) (man : Nat) : Nat → Nat → Int32 → Int32
  | 0, _, a => a
  | c + 1, p, a => rnkL S man c (p + 1) (if rnkP S man p then a + 1 else a)
def rankF (A : wEnv) (S : pplS) (x1 : Int32) : Int32 := if isM (eMen A) x1 then rnkL S (ix x1) (eMen A) 0 0 else -1
/-- false and counted ones in a plan -/
def falU (T : tTV) (n : Nat) (R : Nat → Int32) : Int32 := psum R (fun q => imax 0 (T.2.1 q - T.1 q)) n
def falC (T : tTV) (n : Nat) (R : Nat → Int32) : Int32 := psum R T.2.1 n
def falF (A : wEnv) (T : tTV) (n : Nat) (R : Nat → Nat → Int32) (x1 x2 : Int32) : Int32 := if isM (eMen A) x1 ∧ inR x2 0 1 then (if falC T n (R (ix x1)) = 0 then x2 else (if x2 = 0 then falU T n (R (ix x1)) else falC T n (R (ix x1))) / nI (Nat.gcd (ix (falU T n (R (ix x1)))) (ix (falC T n (R (ix x1)))))) else -1
theorem gcd_st {a b : Nat} : Nat.gcd a b = Nat.gcd b (a % b) := by rw [Nat.gcd_comm a b, Nat.gcd_rec b a, Nat.gcd_comm]
theorem psum_fal {f g h : Nat → Int32} : ∀ n, (∀ z, z < n → inR (f z) 0 9 ∧ inR (g z) 0 20 ∧ inR (h z) 0 20 ∧ (g z).toInt ≤ (h z).toInt) → n ≤ 6 → 0 ≤ (psum f g n).toInt ∧ (psum f g n).toInt ≤ (psum f h n).toInt ∧ (psum f h n).toInt ≤ 180 * n := by
  intro n
  induction n with
  | zero => intro _ _; rw [psum, psum, i32_0]; omega
  | succ n ih =>
    intro h0 hn
    have h1 := ih (fun z hz => h0 z (by omega)) (by omega)
    obtain ⟨⟨a1, a2⟩, ⟨b1, b2⟩, ⟨c1, c2⟩, hle⟩ := h0 n (by omega)
    have m1 : (f n).toInt * (h n).toInt ≤ 9 * 20 := Int.mul_le_mul a2 c2 c1 (by omega)
    have m2 : (f n).toInt * (g n).toInt ≤ (f n).toInt * (h n).toInt := Int.mul_le_mul_of_nonneg_left hle a1
    have m0 : 0 ≤ (f n).toInt * (g n).toInt := Int.mul_nonneg a1 b1
    have e1 : (f n * g n).toInt = (f n).toInt * (g n).toInt := fb_mulI (by omega) (by omega)
    have e2 : (f n * h n).toInt = (f n).toInt * (h n).toInt := fb_mulI (by omega) (by omega)
    rw [psum, psum, fb_addI (by rw [e1]; omega) (by rw [e1]; omega), fb_addI (by rw [e2]; omega) (by rw [e2]; omega), e1, e2]
    omega
def tvOk2 (n : Nat) (T : tTV) : Prop := ∀ z, z < n → inR (T.1 z) 0 20 ∧ inR (T.2.1 z) 0 20
theorem fal_rng {T : tTV} {n : Nat} {R : Nat → Int32} (hT : tvOk2 n T) (hn : n ≤ 6) (hR : ∀ z, z < n → inR (R z) 0 9) : 0 ≤ (falU T n R).toInt ∧ (falU T n R).toInt ≤ (falC T n R).toInt ∧ (falC T n R).toInt ≤ 1080 := by
  have := psum_fal (f := R) (g := fun q => imax 0 (T.2.1 q - T.1 q)) (h := T.2.1) n (fun z hz => by
    obtain ⟨a, b⟩ := hT z hz
    have e : (T.2.1 z - T.1 z).toInt = (T.2.1 z).toInt - (T.1 z).toInt := fb_subI (by omega) (by omega)
    refine ⟨hR z hz, ?_, b, ?_⟩
    · show 0 ≤ (imax 0 (T.2.1 z - T.1 z)).toInt ∧ (imax 0 (T.2.1 z - T.1 z)).toInt ≤ 20
      rw [imax_toInt, e, i32_0]
      split <;> omega
    · show (imax 0 (T.2.1 z - T.1 z)).toInt ≤ _
      rw [imax_toInt, e, i32_0]
      split <;> omega) hn
  unfold falU falC
  omega
section Q8
variable {l : Launch} {D : gD} {d : Nat} {μ : gMem} {t n dy : Nat} {A : wEnv} {S : pplS} {T : tTV} {x1 x2 x3 : Int32}
theorem pln_g (h : pln A) : eGone A = -1 := by show A.2.2.2.2.1 = -1; rw [h]
theorem c_X9_leads (hd : 1 ≤ d) (h : nC μ t n A S dy) : Ctr l D d yX9_leads cX9_leads 1 (some .int) [.ref (D.2.2 9 0)] μ (pI (fun v μ' => v = leadF A S ∧ μ' = μ)) := by
  have h5 := h.men
  refine en_X9_leads (fun Γ => bl_X9_leads_0 (by decide) ?_)
  rw [h.1]
  refine ⟨h.2.1, 0, _, by omega, c_X8_greatest (men := eMen A) (by decide) h.m7 h5, ?_⟩
  rintro v μ1 ⟨rfl, rfl⟩
  refine ⟨?_, rfl⟩
  rw [leadF, h.2.2.1.2.2.1.1, pln_g h.2.2.2.1, ldF_cong (m := eMen A) (eMen A) 0 none (by omega) (fun k hk => by cases hk) (fun k hk => by rw [Nat.mul_zero, Nat.zero_add, h.row (by omega)])]
theorem rankC_loop {Γ : gC} {q : Int32 → gMem → Prop} {man : Nat} {v : Int32} (h : nC μ t n A S dy) (hm : man < eMen A) (hq : q v μ) :
    ∀ (c p : Nat) (a : Int32), p + c = eMen A → rnkL S man c p a = v → pt_X9_rank_1 l D d q Γ 0 (nI man) (S man 4) a (nI p) μ := by
  have h5 := h.men
  intro c
  induction c with
  | zero =>
    intro p a hp hv
    refine bl_X9_rank_1 (by decide) ?_
    rw [h.1, h.m7]
    refine ⟨h.2.1, fun _ => ?_, fun z => absurd (nI_le (by omega) (by omega)) z⟩
    rw [show a = v from hv]
    exact hq
  | succ c ih =>
    intro p a hp hv
    rw [rnkL] at hv
    have nx : ∀ a' : Int32, rnkL S man c (p + 1) a' = v → pt_X9_rank_3 l D d q Γ 0 (nI man) (S man 4) a' (nI p) μ := by
      intro a' ha
      refine bl_X9_rank_3 (by decide) ?_
      rintro _ rfl
      rw [nI_1]
      exact ih (p + 1) a' (by omega) ha
    have yes : rnkP S man p → pt_X9_rank_2 l D d q Γ 0 (nI man) (S man 4) a (nI p) μ := by
      intro hr
      refine bl_X9_rank_2 (by decide) ?_
      rintro _ rfl
      rw [if_pos hr] at hv
      exact nx _ hv
    have no : ¬ rnkP S man p → pt_X9_rank_3 l D d q Γ 0 (nI man) (S man 4) a (nI p) μ := by
      intro hr
      rw [if_neg hr] at hv
      exact nx _ hv
    refine bl_X9_rank_1 (by decide) ?_
    rw [h.1, h.m7]
    refine ⟨h.2.1, fun z => absurd z (nI_ge (by omega) (by omega)), fun _ => ⟨p, by omega, rfl, ?_⟩⟩
    rw [Nat.mul_zero, Nat.zero_add, h.row (by omega)]
    rintro _ rfl
    rw [nI_leI (by omega) (by omega)]
    refine ⟨fun z => yes (Or.inl z), fun z => ⟨fun z2 => no (fun w => ?_), fun z2 => ⟨fun z3 => no (fun w => ?_), fun z3 => yes (Or.inr ⟨z2, by omega⟩)⟩⟩⟩
    · rcases w with w | w
      · exact z w
      · exact z2 w.1
    · rcases w with w | w
      · exact z w
      · omega
theorem c_X9_rank (hd : 2 ≤ d) (h : nC μ t n A S dy) : Ctr l D d yX9_rank cX9_rank 6 (some .int) [.ref (D.2.2 9 0), .int x1] μ (pI (fun v μ' => v = rankF A S x1 ∧ μ' = μ)) := by
  have h5 := h.men
  refine en_X9_rank (fun Γ => bl_X9_rank_0 (by decide) ?_)
  rw [h.1, h.iw]
  refine ⟨by omega, h.2.1, fun z1 => ?_, fun z => ⟨by rw [rankF, if_neg z], rfl⟩⟩
  have z1 := Decidable.not_not.mp z1
  obtain ⟨m1, m2⟩ := isM_ix z1
  refine ⟨ix x1, by omega, m1, ?_⟩
  rw [Nat.mul_zero, Nat.zero_add, h.row (by omega)]
  rintro _ rfl _ rfl _ rfl
  have := rankC_loop (l := l) (D := D) (d := d) (Γ := Γ) (q := fun v μ' => v = rankF A S x1 ∧ μ' = μ) (man := ix x1) (v := rankF A S x1) h m2 ⟨rfl, rfl⟩ (eMen A) 0 0 (by omega) (by rw [rankF, if_pos z1])
  rw [← m1] at this
  exact this
theorem commonC_loop {Γ : gC} {q : Int32 → gMem → Prop} {v : Int32} (hq : q v μ) : ∀ (c k a b : Nat), k + c = 64 → b < a → a < 2 ^ 30 → a * b < 2 ^ c → nI (Nat.gcd a b) = v → pt_X9_commonDivisor_1 l D d q Γ (nI a) (nI b) (nI k) μ := by
  have e64 : (64 : Int32) = nI 64 := rfl
  intro c
  induction c with
  | zero =>
    intro k a b hk hba ha hab hv
    have hb0 : b = 0 := by
      rcases Nat.mul_eq_zero.mp (show a * b = 0 by omega) with w | w
      · omega
      · exact w
    rw [hb0, Nat.gcd_zero_right] at hv
    refine bl_X9_commonDivisor_1 ⟨fun _ => by rw [hv]; exact hq, fun z => absurd (by rw [e64]; exact nI_le (by omega) (by omega)) z⟩
  | succ c ih =>
    intro k a b hk hba ha hab hv
    refine bl_X9_commonDivisor_1 ⟨fun z => absurd z (by rw [e64]; exact nI_ge (by omega) (by omega)), fun _ => ⟨fun z => ?_, fun z => ?_⟩⟩
    · rw [nI_z (by omega)] at z
      rw [z, Nat.gcd_zero_right] at hv
      rw [hv]
      exact hq
    · refine ⟨z, ?_⟩
      rw [nI_z (by omega)] at z
      rw [pk_rem (by omega) (by omega) (by omega)]
      rintro _ rfl _ rfl _ rfl _ rfl
      rw [nI_1]
      have hlt := Nat.mod_lt a (show 0 < b by omega)
      have h2 : 2 * (a % b) ≤ a := by
        have q1 := Nat.div_add_mod a b
        have q2 : 1 ≤ a / b := (Nat.one_le_div_iff (by omega)).mpr (by omega)
        have q3 : b * 1 ≤ b * (a / b) := Nat.mul_le_mul_left b q2
        omega
      refine ih (k + 1) b (a % b) (by omega) hlt (by omega) ?_ (by rw [← gcd_st]; exact hv)
      have h3 : 2 * (a % b) * b ≤ a * b := Nat.mul_le_mul_right b h2
      have h4 : 2 * (a % b) * b = 2 * (b * (a % b)) := by rw [Nat.mul_assoc, Nat.mul_comm (a % b) b]
      rw [Nat.pow_succ] at hab
      omega
theorem c_X9_commonDivisor {a b : Nat} (e1 : x1 = nI a) (e2 : x2 = nI b) (ha : a ≤ 2000) (hb : b ≤ 2000) : Ctr l D d yX9_commonDivisor cX9_commonDivisor 6 (some .int) [.int x1, .int x2] μ (pI (fun v μ' => v = nI (Nat.gcd a b) ∧ μ' = μ)) := by
  subst e1 e2
  refine en_X9_commonDivisor (fun Γ => bl_X9_commonDivisor_0 ?_)
  rintro _ rfl _ rfl _ rfl
  refine bl_X9_commonDivisor_1 ⟨fun z => absurd z (by decide), fun _ => ⟨fun z => ?_, fun z => ?_⟩⟩
  · rw [nI_z (by omega)] at z
    rw [z, Nat.gcd_zero_right]
    exact ⟨rfl, rfl⟩
  · refine ⟨z, ?_⟩
    rw [nI_z (by omega)] at z
    rw [pk_rem (by omega) (by omega) (by omega)]
    rintro _ rfl _ rfl _ rfl _ rfl
    have hlt := Nat.mod_lt a (show 0 < b by omega)
    refine commonC_loop (v := nI (Nat.gcd a b)) ⟨rfl, rfl⟩ 63 1 b (a % b) (by omega) hlt (by omega) ?_ (by rw [← gcd_st])
    have : b * (a % b) ≤ 2000 * 2000 := Nat.mul_le_mul hb (by omega)
    exact Nat.lt_of_le_of_lt this (by decide)
theorem falseC_loop {Γ : gC} {q : Int32 → gMem → Prop} {man : Nat} {R : Nat → Int32} {v : Int32} (hd : 1 ≤ d) (h : nC μ t n A S dy) (hT : tvC μ t n T) (hO : tvOk2 n T) (hm : man < 5) (hR : ∀ z, z < n → inR (R z) 0 9) (hr : ∀ z, z < n → μ.1 331 man z = R z) (hx : inR x2 0 1)
    (hv : (if falC T n R = 0 then x2 else (if x2 = 0 then falU T n R else falC T n R) / nI (Nat.gcd (ix (falU T n R)) (ix (falC T n R)))) = v) (hq : q v μ) :
    ∀ (c j : Nat), j + c = n → pt_X9_falseOnes_1 l D d q Γ 0 x2 man (falC T j R) (falU T j R) (nI j) μ := by
  have hn6 := h.2.2.1.1.2.2.1
  have hn7 := h.2.2.1.1.2.1
  intro c
  induction c with
  | zero =>
    intro j hj
    obtain rfl : j = n := by omega
    have rg := fal_rng hO hn6 hR
    refine bl_X9_falseOnes_1 (by decide) (by omega) ?_
    rw [h.1, hn7]
    refine ⟨h.2.1, fun _ => ⟨0, _, by omega, c_X9_commonDivisor (a := ix (falU T j R)) (b := ix (falC T j R)) (ix_nI (by omega)) (ix_nI (by omega)) (by unfold ix; omega) (by unfold ix; omega), ?_⟩, fun z => absurd (nI_le (by omega) (by omega)) z⟩
    rintro v1 μ1 ⟨rfl, rfl⟩ _ rfl
    have hg : Nat.gcd (ix (falU T j R)) (ix (falC T j R)) < 2 ^ 31 := by
      by_cases hc : ix (falC T j R) = 0
      · rw [hc, Nat.gcd_zero_right]; unfold ix; omega
      · have := Nat.le_of_dvd (by omega) (Nat.gcd_dvd_right (ix (falU T j R)) (ix (falC T j R)))
        have : ix (falC T j R) ≤ 1080 := by unfold ix; omega
        omega
    rw [nI_z hg]
    by_cases hc : falC T j R = 0
    · have c0 : ix (falC T j R) = 0 := by rw [hc]; decide
      have u0 : ix (falU T j R) = 0 := by
        have : (falC T j R).toInt = 0 := by rw [hc]; decide
        unfold ix
        omega
      rw [if_pos hc] at hv
      refine ⟨fun z => absurd (by rw [c0, u0]; rfl) z, fun _ => ?_⟩
      rw [hv]
      exact hq
    · have c1 : ¬ ix (falC T j R) = 0 := fun w => hc (by rw [ix_nI (x := falC T j R) (by omega), w]; rfl)
      have g1 : ¬ Nat.gcd (ix (falU T j R)) (ix (falC T j R)) = 0 := fun w => c1 (Nat.eq_zero_of_gcd_eq_zero_right w)
      rw [if_neg hc] at hv
      have g2 : ¬ nI (Nat.gcd (ix (falU T j R)) (ix (falC T j R))) = 0 := fun w => g1 ((nI_z hg).mp w)
      refine ⟨fun _ => ⟨fun z => bl_X9_falseOnes_2 ⟨g2, ?_⟩, fun z => bl_X9_falseOnes_2 ⟨g2, ?_⟩⟩, fun z => absurd z g1⟩
      · rw [if_neg z] at hv
        rw [hv]; exact hq
      · rw [if_pos z] at hv
        rw [hv]; exact hq
  | succ c ih =>
    intro j hj
    refine bl_X9_falseOnes_1 (by decide) (by omega) ?_
    rw [h.1, hn7]
    refine ⟨h.2.1, fun z => absurd z (nI_ge (by omega) (by omega)), fun _ => ⟨j, by omega, rfl, h.2.1, j, by omega, rfl, ?_⟩⟩
    rw [hr j (by omega), (hT.1 j (by omega)).2]
    rintro _ rfl
    refine ⟨j, by omega, rfl, h.2.1, j, by omega, rfl, h.2.1, j, by omega, rfl, by omega, ?_⟩
    rw [hr j (by omega), (hT.1 j (by omega)).2, (hT.1 j (by omega)).1]
    rintro _ rfl _ rfl
    rw [nI_1]
    exact ih (j + 1) (by omega)
theorem c_X9_falseOnes {R : Nat → Nat → Int32} (hd : 2 ≤ d) (h : nC μ t n A S dy) (hT : tvC μ t n T) (hO : tvOk2 n T) (hR : ∀ p, p < 5 → ∀ z, z < 6 → inR (R p z) 0 9 ∧ μ.1 331 p z = R p z) : Ctr l D d yX9_falseOnes cX9_falseOnes 7 (some .int) [.ref (D.2.2 9 0), .int x1, .int x2] μ (pI (fun v μ' => v = falF A T n R x1 x2 ∧ μ' = μ)) := by
  have h5 := h.men
  have hn6 := h.2.2.1.1.2.2.1
  refine en_X9_falseOnes (fun Γ => bl_X9_falseOnes_0 (by decide) ?_)
  rw [h.1, h.iw, iw_lit (x := x2) (za := 0) (zb := 1) (by decide) (by decide)]
  refine ⟨by omega, h.2.1, fun z => ⟨by rw [falF, if_neg (fun w => z w.1)], rfl⟩, fun z1 => ⟨by omega, fun z2 => ?_, fun z => ⟨by rw [falF, if_neg (fun w => z w.2)], rfl⟩⟩⟩
  have z1 := Decidable.not_not.mp z1
  have z2 := Decidable.not_not.mp z2
  obtain ⟨m1, m2⟩ := isM_ix z1
  refine ⟨ix x1, by omega, m1, ?_⟩
  rw [Nat.mul_zero, Nat.zero_add]
  rintro _ rfl _ rfl _ rfl
  exact falseC_loop (R := R (ix x1)) (v := falF A T n R x1 x2) (by omega) h hT hO (by omega) (fun z hz => (hR _ (by omega) z (by omega)).1) (fun z hz => (hR _ (by omega) z (by omega)).2) z2 (by rw [falF, if_pos (c := isM (eMen A) x1 ∧ inR x2 0 1) ⟨z1, z2⟩]) ⟨rfl, rfl⟩ n 0 (by omega)
end Q8
section Q8M
variable {l : Launch} {D : gD} {d : Nat} {μ : gMem} {n dy : Nat} {A : wEnv} {S : pplS} {T : tTV} {x1 x2 x3 : Int32}
theorem c_X10_leads (hd : 2 ≤ d) (h : nM μ n A S dy) : Ctr l D d yX10_leads cX10_leads 1 (some .int) [.ref (D.2.2 10 0)] μ (pI (fun v μ' => v = leadF A S ∧ mqF μ μ')) := by
  have h5 := h.men
  refine en_X10_leads (fun Γ => bl_X10_leads_0 (by decide) ?_)
  rintro μ1 rfl
  obtain ⟨hF0, h1⟩ := h.th
  refine ⟨1, _, by omega, c_X10_leader (m := 0) (men := eMen A) (by omega) h1.1.1.1 h5 (by decide), ?_⟩
  rintro v μ2 ⟨rfl, rfl⟩
  refine ⟨?_, hF0⟩
  have hg : gnM (gsI μ 10 0 0 0) = -1 := by rw [h1.1.2.2.1.1]; exact pln_g h.2.1
  have e := ldF_cong (f := (gsI μ 10 0 0 0).1 744 0) (g := fun k => S k 4) (gone := -1) (m := eMen A) (eMen A) 0 none (by omega) (fun k hk => by cases hk) (fun k hk => h1.row hk (j := 4) (by omega))
  simp only [Nat.mul_zero, Nat.zero_add]
  rw [leadF, hg, ← e]
theorem rankM_loop {Γ : gC} {q : Int32 → gMem → Prop} {man : Nat} {v : Int32} (h : nM μ n A S dy) (hm : man < eMen A) (hq : q v μ) :
    ∀ (c p : Nat) (a : Int32), p + c = eMen A → rnkL S man c p a = v → pt_X10_rank_1 l D d q Γ 0 (nI man) a (nI p) μ := by
  have h5 := h.men
  intro c
  induction c with
  | zero =>
    intro p a hp hv
    refine bl_X10_rank_1 (by decide) ?_
    rw [h.1.1.1]
    refine ⟨fun _ => ?_, fun z => absurd (nI_le (by omega) (by omega)) z⟩
    rw [show a = v from hv]
    exact hq
  | succ c ih =>
    intro p a hp hv
    rw [rnkL] at hv
    have nx : ∀ x : Int32, rnkL S man c (p + 1) (a + x) = v → pt_X10_rank_4 l D d q Γ 0 (nI man) (nI p) a x μ := by
      intro x ha
      refine bl_X10_rank_4 (by decide) ?_
      rintro _ rfl _ rfl
      rw [nI_1]
      exact ih (p + 1) _ (by omega) ha
    have yes : rnkP S man p → pt_X10_rank_2 l D d q Γ 0 (nI man) (nI p) a μ := by
      intro hr
      rw [if_pos hr] at hv
      exact bl_X10_rank_2 (by decide) (nx 1 hv)
    have no : ¬ rnkP S man p → pt_X10_rank_3 l D d q Γ 0 (nI man) (nI p) a μ := by
      intro hr
      rw [if_neg hr] at hv
      exact bl_X10_rank_3 (by decide) (nx 0 (by rw [Int32.add_zero]; exact hv))
    have rp : μ.1 744 0 p = S p 4 := h.row (by omega) (j := 4) (by omega)
    have rm : μ.1 744 0 man = S man 4 := h.row hm (j := 4) (by omega)
    refine bl_X10_rank_1 (by decide) ?_
    rw [h.1.1.1]
    refine ⟨fun z => absurd z (nI_ge (by omega) (by omega)), fun _ => ⟨p, by omega, rfl, man, by omega, rfl, ?_⟩⟩
    rw [rp, rm]
    refine ⟨fun z => yes (Or.inl z), fun z => ⟨p, by omega, rfl, man, by omega, rfl, ?_⟩⟩
    rw [rp, rm, nI_leI (by omega) (by omega)]
    refine ⟨fun z2 => no (fun w => ?_), fun z2 => ⟨fun z3 => no (fun w => ?_), fun z3 => yes (Or.inr ⟨z2, by omega⟩)⟩⟩
    · rcases w with w | w
      · exact z w
      · exact z2 w.1
    · rcases w with w | w
      · exact z w
      · omega
theorem c_X10_rank (hd : 1 ≤ d) (h : nM μ n A S dy) : Ctr l D d yX10_rank cX10_rank 4 (some .int) [.ref (D.2.2 10 0), .int x1] μ (pI (fun v μ' => v = rankF A S x1 ∧ mqF μ μ')) := by
  refine en_X10_rank (fun Γ => bl_X10_rank_0 (by decide) ?_)
  rintro μ1 rfl
  obtain ⟨hF0, h1⟩ := h.th
  rw [h1.isn]
  refine ⟨by omega, fun z1 => ?_, fun z => ⟨by rw [rankF, if_neg z], hF0⟩⟩
  have z1 := Decidable.not_not.mp z1
  obtain ⟨m1, m2⟩ := isM_ix z1
  rintro _ rfl _ rfl
  have := rankM_loop (l := l) (D := D) (d := d) (Γ := Γ) (q := fun v μ' => v = rankF A S x1 ∧ mqF μ μ') (man := ix x1) (v := rankF A S x1) h1 m2 ⟨rfl, hF0⟩ (eMen A) 0 0 (by omega) (by rw [rankF, if_pos z1])
  rw [← m1] at this
  exact this
theorem commonM_loop {Γ : gC} {q : Int32 → gMem → Prop} {v : Int32} (hq : q v μ) : ∀ (b a : Nat), a < 2 ^ 30 → b < 2 ^ 30 → nI (Nat.gcd a b) = v → pt_X10_common_1 l D d q Γ (nI a) (nI b) μ := by
  intro b
  induction b using Nat.strongRecOn with
  | _ b ih =>
    intro a ha hb hv
    refine bl_X10_common_1 ⟨fun z => ?_, fun z => ?_⟩
    · rw [nI_z (by omega)] at z
      rw [z, Nat.gcd_zero_right] at hv
      rw [hv]
      exact hq
    · refine ⟨z, ?_⟩
      rw [nI_z (by omega)] at z
      rw [pk_rem (by omega) (by omega) (by omega)]
      rintro _ rfl _ rfl _ rfl
      have hlt := Nat.mod_lt a (show 0 < b by omega)
      exact ih (a % b) hlt b hb (by omega) (by rw [← gcd_st]; exact hv)
theorem c_X10_common {a b : Nat} (e1 : x1 = nI a) (e2 : x2 = nI b) (ha : a ≤ 2000) (hb : b ≤ 2000) : Ctr l D d yX10_common cX10_common 5 (some .int) [.int x1, .int x2] μ (pI (fun v μ' => v = nI (Nat.gcd a b) ∧ μ' = μ)) := by
  subst e1 e2
  refine en_X10_common (fun Γ => bl_X10_common_0 ?_)
  rintro _ rfl _ rfl
  exact commonM_loop (v := nI (Nat.gcd a b)) ⟨rfl, rfl⟩ b a (by omega) (by omega) rfl
theorem falseM_loop {Γ : gC} {q : Int32 → gMem → Prop} {man : Nat} {R : Nat → Int32} {v : Int32} (hd : 1 ≤ d) (h : nM μ n A S dy) (hT : tvM μ n (eMen A) T) (hO : tvOk2 n T) (hm : man < 5) (hR : ∀ z, z < n → inR (R z) 0 9) (hr : ∀ z, z < n → μ.1 751 0 (6 * man + z) = R z) (hx : inR x2 0 1)
    (hv : (if falC T n R = 0 then x2 else (if x2 = 0 then falU T n R else falC T n R) / nI (Nat.gcd (ix (falU T n R)) (ix (falC T n R)))) = v) (hq : q v μ) :
    ∀ (c j : Nat), j + c = n → pt_X10_falseOnes_1 l D d q Γ 0 (nI man) x2 (falU T j R) (falC T j R) (nI j) μ := by
  have hn6 := h.1.1.2.2.1
  have hn7 := h.1.1.2.1
  intro c
  induction c with
  | zero =>
    intro j hj
    obtain rfl : j = n := by omega
    have rg := fal_rng hO hn6 hR
    refine bl_X10_falseOnes_1 (by decide) ?_
    rw [hn7]
    refine ⟨fun _ => ⟨fun hc => ⟨0, _, by omega, c_X10_common (a := ix (falU T j R)) (b := ix (falC T j R)) (ix_nI (by omega)) (ix_nI (by omega)) (by unfold ix; omega) (by unfold ix; omega), ?_⟩, fun hc => ?_⟩, fun z => absurd (nI_le (by omega) (by omega)) z⟩
    · rintro v1 μ1 ⟨rfl, rfl⟩ _ rfl
      have c1 : ¬ ix (falC T j R) = 0 := fun w => hc (by rw [ix_nI (x := falC T j R) (by omega), w]; rfl)
      have hg : Nat.gcd (ix (falU T j R)) (ix (falC T j R)) < 2 ^ 31 := by
        have := Nat.le_of_dvd (by omega) (Nat.gcd_dvd_right (ix (falU T j R)) (ix (falC T j R)))
        have : ix (falC T j R) ≤ 1080 := by unfold ix; omega
        omega
      have g1 : ¬ Nat.gcd (ix (falU T j R)) (ix (falC T j R)) = 0 := fun w => c1 (Nat.eq_zero_of_gcd_eq_zero_right w)
      have g2 : ¬ nI (Nat.gcd (ix (falU T j R)) (ix (falC T j R))) = 0 := fun w => g1 ((nI_z hg).mp w)
      rw [if_neg hc] at hv
      refine ⟨fun z => ⟨g2, ?_⟩, fun z => ⟨g2, ?_⟩⟩
      · rw [if_neg z] at hv
        rw [hv]; exact hq
      · rw [if_pos z] at hv
        rw [hv]; exact hq
    · rw [if_pos hc] at hv
      rw [hv]
      exact hq
  | succ c ih =>
    intro j hj
    have ei : ((6 : Int32) * nI man) + nI j = nI (6 * man + j) := by rw [show (6 : Int32) = nI 6 from rfl, pk_mul, nI_add]
    refine bl_X10_falseOnes_1 (by decide) ?_
    rw [hn7]
    refine ⟨fun z => absurd z (nI_ge (by omega) (by omega)), fun _ => ⟨6 * man + j, by omega, ei, ?_⟩⟩
    rw [hr j (by omega)]
    rintro _ rfl
    refine ⟨j, by omega, rfl, j, by omega, rfl, by omega, ?_⟩
    rw [(hT.1 j (by omega)).2, (hT.1 j (by omega)).1]
    rintro _ rfl
    refine ⟨j, by omega, rfl, ?_⟩
    rw [(hT.1 j (by omega)).2]
    rintro _ rfl _ rfl
    rw [nI_1]
    exact ih (j + 1) (by omega)
theorem c_X10_falseOnes {R : Nat → Nat → Int32} (hd : 1 ≤ d) (h : nM μ n A S dy) (hT : tvM μ n (eMen A) T) (hO : tvOk2 n T) (hR : ∀ p, p < 5 → ∀ z, z < 6 → inR (R p z) 0 9 ∧ μ.1 751 0 (6 * p + z) = R p z) : Ctr l D d yX10_falseOnes cX10_falseOnes 7 (some .int) [.ref (D.2.2 10 0), .int x1, .int x2] μ (pI (fun v μ' => v = falF A T n R x1 x2 ∧ mqF μ μ')) := by
  have h5 := h.men
  have hn6 := h.1.1.2.2.1
  refine en_X10_falseOnes (fun Γ => bl_X10_falseOnes_0 (by decide) ?_)
  rintro μ1 rfl
  obtain ⟨hF0, h1⟩ := h.th
  rw [h1.isn, lt0, leL (z := 1) (by decide)]
  refine ⟨by omega, fun z => ⟨by rw [falF, if_neg (fun w => z w.1)], hF0⟩, fun z1 => ⟨fun z => ⟨by rw [falF, if_neg (fun w => by have := w.2; omega)], hF0⟩, fun z2 => ⟨fun z3 => ?_, fun z => ⟨by rw [falF, if_neg (fun w => by have := w.2; omega)], hF0⟩⟩⟩⟩
  have z1 := Decidable.not_not.mp z1
  have y2 : inR x2 0 1 := by omega
  obtain ⟨m1, m2⟩ := isM_ix z1
  rintro _ rfl _ rfl _ rfl
  have := falseM_loop (l := l) (D := D) (d := d) (Γ := Γ) (μ := gsI μ 10 0 0 0) (q := fun v μ' => v = falF A T n R x1 x2 ∧ mqF μ μ') (x2 := x2) (T := T) (man := ix x1) (R := R (ix x1)) (v := falF A T n R x1 x2) (by omega) h1 (hT.mv hF0.v) hO (by omega) (fun z hz => (hR _ (by omega) z (by omega)).1) (fun z hz => by rw [gsI_off (by omega)]; exact (hR _ (by omega) z (by omega)).2) y2 (by rw [falF, if_pos (c := isM (eMen A) x1 ∧ inR x2 0 1) ⟨z1, y2⟩]) ⟨rfl, hF0⟩ n 0 (by omega)
  rw [← m1] at this
  exact this
end Q8M
