/-! the class: any line, a text -/
/-- a line and its end -/
noncomputable def lneR (lg : Nat → Int32) (tb : Nat → Nat) (L : Nat) (δ : dfT) (p : Nat) : rsL dfT := bnd (lnR lg tb L δ p) fun δ' q => if tkK lg tb L q = 33 then .inr (δ', nxP lg tb L q) else .inl (1, q)
/-- lines; how many -/
noncomputable def txL (lg : Nat → Int32) (tb : Nat → Nat) (L : Nat) : Nat → dfT → Nat → Nat → rsL dfT
  | 0, δ, _, k => .inr (δ, k)
  | m + 1, δ, p, k => if tkK lg tb L p = 36 then .inr (δ, k) else match lneR lg tb L δ p with | .inl x => .inl x | .inr (δ', q) => txL lg tb L m δ' q (k + 1)
/-- the text of L bytes: the draft and how many lines, or a fault and its place -/
noncomputable def txR (lg : Nat → Int32) (tb : Nat → Nat) (L : Nat) : rsL dfT := txL lg tb L L df0 (tkP tb L 0) 0
theorem df0_R : dfR df0 := ⟨fun k hk => absurd hk (Nat.not_lt_zero _), fun k hk => absurd hk (Nat.not_lt_zero _), fun z _ => (by decide : inR 0 0 9), by decide, by decide, by decide⟩
theorem df0_B : dfB df0 := ⟨by decide, by decide, by decide, by decide, fun r _ => (by decide : 0 ≤ 0 ∧ 0 ≤ 0)⟩
section CT
variable {l : Launch} {D : gD} {d : Nat} {μ μ0 μ1 : gMem} {lg : Nat → Int32} {tb : Nat → Nat} {L p e : Nat} {δ : dfT}
theorem tk_in {k : Int32} (h : tkK lg tb L p = k) (hk : ¬ k = 36) : p < L := Decidable.byContradiction (fun w => hk (h.symm.trans (tkK_end w)))
theorem c_X5_readLine (hd : 8 ≤ d) (he : e < 2) (h : rdC lg tb L e μ p δ) (hB : dfB δ) (hR : dfR δ) : Ctr l D d yX5_readLine cX5_readLine 1 (some .boolean) [.ref (D.2.2 5 0)] μ (pI (fun v μ' => lnQ lg tb L e μ (lnR lg tb L δ p) v μ' ∧ ∀ δ' q, lnR lg tb L δ p = .inr (δ', q) → dfB δ' ∧ dfR δ')) := by
  have k5 : μ.1 6 0 5 = tkK lg tb L p := h.2.2.2.1.2.1
  have wrap : ∀ (R : rsL dfT), lnR lg tb L δ p = R → (∀ δ' q, R = .inr (δ', q) → dfB δ' ∧ dfR δ') → ∀ (v : Int32) (μ' : gMem), lnQ lg tb L e μ R v μ' → (v = 0 ∨ v = 1) ∧ lnQ lg tb L e μ (lnR lg tb L δ p) v μ' ∧ ∀ δ' q, lnR lg tb L δ p = .inr (δ', q) → dfB δ' ∧ dfR δ' := by
    intro R eR ok v μ' hq
    rw [eR]
    exact ⟨hq.2.b, hq, ok⟩
  refine en_X5_readLine (fun Γ => bl_X5_readLine_0 (by decide) ?_)
  rw [k5]
  refine ⟨fun z => ⟨5, _, by omega, c_X5_readMan (by omega) he h hB.1, wrap _ ?_ ?_⟩, fun z => ⟨5, _, by omega, c_X5_readDeed (by omega) he h hB.2.1, wrap _ ?_ ?_⟩, fun z => ⟨5, _, by omega, c_X5_readPlan (by omega) he h hB, wrap _ ?_ ?_⟩, fun z => ⟨5, _, by omega, c_X5_readBet (by omega) he h z, wrap _ ?_ ?_⟩, fun z => ⟨5, _, by omega, c_X5_readPay (by omega) he h z, wrap _ ?_ ?_⟩, fun z => ⟨5, _, by omega, c_X5_readRain (by omega) he h z, wrap _ ?_ ?_⟩, fun z => ⟨5, _, by omega, c_X5_readSeed (by omega) he h z, wrap _ ?_ ?_⟩, fun z => ⟨7, _, by omega, c_X5_readLaw (by omega) he h hB, ?_⟩, fun z => ⟨0, _, by omega, c_X5_fail h.2.2.2.1, ?_⟩⟩
  · unfold lnR; rw [if_pos z]
  · intro δ' q w
    have r := lnM_ok w (tk_in z (by decide)) hR hB
    exact ⟨r.2.1, r.1⟩
  · unfold lnR; rw [if_neg (by rw [z]; decide), if_pos z]
  · intro δ' q w
    have r := lnD_ok w (tk_in z (by decide)) hR hB
    exact ⟨r.2.1, r.1⟩
  · unfold lnR; rw [if_neg (by rw [z]; decide), if_neg (by rw [z]; decide), if_pos z]
  · intro δ' q w
    have r := lnP_ok w (tk_in z (by decide)) hR hB
    exact ⟨r.2.1, r.1⟩
  · unfold lnR; rw [if_neg (by rw [z]; decide), if_neg (by rw [z]; decide), if_neg (by rw [z]; decide), if_pos z]
  · intro δ' q w
    have r := ln2_ok w (by omega) (tk_in z (by decide)) hR hB
    exact ⟨r.2.1, r.1⟩
  · unfold lnR; rw [if_neg (by rw [z]; decide), if_neg (by rw [z]; decide), if_neg (by rw [z]; decide), if_neg (by rw [z]; decide), if_pos z]
  · intro δ' q w
    have r := ln2_ok w (by omega) (tk_in z (by decide)) hR hB
    exact ⟨r.2.1, r.1⟩
  · unfold lnR; rw [if_neg (by rw [z]; decide), if_neg (by rw [z]; decide), if_neg (by rw [z]; decide), if_neg (by rw [z]; decide), if_neg (by rw [z]; decide), if_pos z]
  · intro δ' q w
    have r := ln1_ok w (by omega) (tk_in z (by decide)) hR hB
    exact ⟨r.2.1, r.1⟩
  · unfold lnR; rw [if_neg (by rw [z]; decide), if_neg (by rw [z]; decide), if_neg (by rw [z]; decide), if_neg (by rw [z]; decide), if_neg (by rw [z]; decide), if_neg (by rw [z]; decide), if_pos z]
  · intro δ' q w
    have r := ln1_ok w (by omega) (tk_in z (by decide)) hR hB
    exact ⟨r.2.1, r.1⟩
  · rintro v μ' ⟨hq, ok⟩
    refine wrap (lnL lg tb L δ p) (by unfold lnR; rw [if_neg (by rw [z]; decide), if_neg (by rw [z]; decide), if_neg (by rw [z]; decide), if_neg (by rw [z]; decide), if_neg (by rw [z]; decide), if_neg (by rw [z]; decide), if_neg (by rw [z]; decide), if_pos z]) (fun δ' q w => ⟨ok δ' q w, ?_⟩) v μ' hq
    unfold lnL at w
    by_cases h1 : inR (tkK lg tb L (nxP lg tb L p)) 8 10
    · rw [if_pos h1] at w
      by_cases h2 : δ.2.2.2.2.1.2.2.1 (ix (tkK lg tb L (nxP lg tb L p)) - 8) < δ.2.2.2.2.1.2.2.2 (ix (tkK lg tb L (nxP lg tb L p)) - 8)
      · rw [if_pos h2] at w; cases w
      · rw [if_neg h2] at w
        unfold lwR at w
        split at w
        · cases w; exact hR
        · cases w
        · cases w
    · rw [if_neg h1] at w; cases w
  · rintro v μ' ⟨ev, F, a, b⟩
    rw [ev]
    exact wrap (.inl (1, p)) (by unfold lnR; rw [if_neg z.1, if_neg z.2.1, if_neg z.2.2.1, if_neg z.2.2.2.1, if_neg z.2.2.2.2.1, if_neg z.2.2.2.2.2.1, if_neg z.2.2.2.2.2.2.1, if_neg z.2.2.2.2.2.2.2]) (fun δ' q w => by cases w) 0 μ' ⟨F.l, rfl, a, b⟩
/-- what reading the lines of a text leaves of the class -/
def txQ (e : Nat) (R : rsL dfT) (v : Int32) (μ' : gMem) : Prop := match R with | .inl (k, q) => v = -1 ∧ μ'.1 5 0 5 = k ∧ μ'.1 5 0 6 = nI q | .inr (δ', n) => v = nI n ∧ dfC μ' e δ' ∧ nfC μ' ∧ dfB δ' ∧ dfR δ'
theorem readText_2 {Γ : gC} {q : Int32 → gMem → Prop} {R : rsL dfT} (hd : 9 ≤ d) (he : e < 2) (hq : ∀ v μ', lnF e μ0 μ' → txQ e R v μ' → q v μ') : ∀ (m k p : Nat) (δ : dfT) (μ : gMem), k + m ≤ 700 → lnF e μ0 μ → rdC lg tb L e μ p δ → dfB δ → dfR δ → txL lg tb L m δ p k = R → pt_X5_readText_2 l D d q Γ 0 (nI k) (nI m) μ := by
  intro m
  induction m with
  | zero =>
    intro k p δ μ hk hF h hB hR eR
    refine bl_X5_readText_2 (by decide) ⟨fun _ => hq _ _ hF ?_, fun z => absurd (by decide) z⟩
    rw [← eR]
    exact ⟨rfl, h.2.2.2.2.1, h.2.2.2.2.2, hB, hR⟩
  | succ m ih =>
    intro k p δ μ hk hF h hB hR eR
    have k5 : μ.1 6 0 5 = tkK lg tb L p := h.2.2.2.1.2.1
    rw [txL] at eR
    refine bl_X5_readText_2 (by decide) ⟨fun z => absurd ((nI_leI (b := 0) (by omega) (by omega)).mp z) (by omega), fun _ => ?_⟩
    rw [k5]
    refine ⟨fun z => hq _ _ hF ?_, fun z => ⟨8, _, by omega, c_X5_readLine (by omega) he h hB hR, ?_⟩⟩
    · rw [if_pos z] at eR
      rw [← eR]
      exact ⟨rfl, h.2.2.2.2.1, h.2.2.2.2.2, hB, hR⟩
    rw [if_neg z] at eR
    rintro v8 μ7 ⟨⟨F7, q7⟩, ok⟩
    unfold lneR at eR
    obtain ⟨X, hX⟩ : ∃ X, lnR lg tb L δ p = X := ⟨_, rfl⟩
    rw [hX] at q7 ok eR
    rcases X with ⟨j, q1⟩ | ⟨δ1, q1⟩
    · obtain ⟨a1, a2, a3⟩ := q7
      refine ⟨fun _ => hq _ _ (hF.tr F7) ?_, fun w => absurd a1 w⟩
      rw [← eR]
      exact ⟨rfl, a2, a3⟩
    obtain ⟨a1, a2, a3, a4, a5⟩ := q7
    obtain ⟨B1, R1⟩ := ok δ1 q1 rfl
    have h7 : rdC lg tb L e μ7 q1 δ1 := ⟨by rw [F7.2.2]; exact h.1, h.2.1.l F7, a2, a3, a4, a5⟩
    refine ⟨fun w => absurd (a1.symm.trans w) (by decide), fun _ => ⟨3, _, by omega, c_X5_readLineEnd (by omega) h7.2.1 h7.2.2.1 h7.2.2.2.1, ?_⟩⟩
    rintro v16 μ15 ⟨F15, q15⟩
    have eR : (match (if tkK lg tb L q1 = 33 then (.inr (δ1, nxP lg tb L q1) : rsL dfT) else .inl (1, q1)) with | .inl x => .inl x | .inr (δ', q) => txL lg tb L m δ' q (k + 1)) = R := eR
    by_cases h33 : tkK lg tb L q1 = 33
    · rw [if_pos h33] at q15 eR
      obtain ⟨b1, b2, b3, b4⟩ := q15
      refine ⟨fun _ => ?_, fun w => absurd (b1.symm.trans w) (by decide)⟩
      rintro _ rfl _ rfl
      rw [nI_1, show nI (m + 1) + (-1 : Int32) = nI m by rw [show (-1 : Int32) = -nI 1 from rfl, ← Int32.sub_eq_add_neg, pk_sub (by omega)]; rfl]
      exact ih (k + 1) _ δ1 μ15 (by omega) ((hF.tr F7).tr F15.l) (h7.rn F15 b2 b3 (fun j _ => by rw [b4])) B1 R1 eR
    · rw [if_neg h33] at q15 eR
      obtain ⟨b1, b2, b3⟩ := q15
      refine ⟨fun w => absurd b1 w, fun _ => hq _ _ ((hF.tr F7).tr F15.l) ?_⟩
      rw [← eR]
      exact ⟨rfl, b2, b3⟩
/-- what reading a text may change of the class -/
def rtF (e : Nat) (μ μ' : gMem) : Prop := (∀ k j, ¬ (j = 0 ∧ (k = 1 ∨ k = 128 ∨ k = 130 ∨ k = 5 ∨ k = 6 ∨ k = 386)) → ¬ (j = e ∧ (k = 2 ∨ k = 7 ∨ (192 ≤ k ∧ k ≤ 195) ∨ (513 ≤ k ∧ k ≤ 523))) → μ'.1 k j = μ.1 k j) ∧ (∀ j, ¬ (3 ≤ j ∧ j ≤ 7) → μ'.1 6 0 j = μ.1 6 0 j) ∧ μ'.2.1 = μ.2.1 ∧ μ'.2.2 0 = μ.2.2 0 ∧ μ'.2.2 1 = μ.2.2 1
theorem rtF.tr {e : Nat} {μ μ1 μ2 : gMem} (h : rtF e μ μ1) (h2 : rtF e μ1 μ2) : rtF e μ μ2 := ⟨fun k j a b => (h2.1 k j a b).trans (h.1 k j a b), fun j a => (h2.2.1 j a).trans (h.2.1 j a), h2.2.2.1.trans h.2.2.1, h2.2.2.2.1.trans h.2.2.2.1, h2.2.2.2.2.trans h.2.2.2.2⟩
theorem lnF.t {e : Nat} {μ μ' : gMem} (h : lnF e μ μ') : rtF e μ μ' := ⟨h.1, fun j a => h.2.1 j (by omega), by rw [h.2.2], by rw [h.2.2], by rw [h.2.2]⟩
theorem c_X6_begin {x1 : Int32} {n : Nat} (hx : x1 = nI n) (hn : n ≤ 700) (hd : 3 ≤ d) (h448 : ∀ k, k < n → μ.1 448 0 k = sb (tb k) ∧ tb k < 256) (h449 : ∀ z, z < 21 → μ.1 449 0 z = lg z) : Ctr l D d yX6_begin cX6_begin 2 none [.ref (D.2.2 6 0), .int x1] μ (pV (fun μ' => (∀ k j, ¬ (k = 6 ∧ j = 0) → μ'.1 k j = μ.1 k j) ∧ (∀ j, ¬ (3 ≤ j ∧ j ≤ 7) → μ'.1 6 0 j = μ.1 6 0 j) ∧ μ'.2 = μ.2 ∧ tkC lg tb n μ' ∧ atC lg tb n (tkP tb n 0) μ')) := by
  subst hx
  refine en_X6_begin (fun Γ => bl_X6_begin_0 (by decide) ⟨by omega, ?_⟩)
  rw [show (700 : Int32) = nI 700 from rfl, imin_n (by omega) (by omega), Nat.min_eq_left hn]
  rintro μ2 e2 μ3 e3
  have o3 : ∀ k j, ¬ (k = 6 ∧ j = 0) → μ3.1 k j = μ.1 k j := fun k j hk => by rw [e3, gsI_off (by omega), e2, gsI_off (by omega)]
  have g3 : ∀ j, ¬ (3 ≤ j ∧ j ≤ 4) → μ3.1 6 0 j = μ.1 6 0 j := fun j hj => by rw [e3, gsI_at, if_neg (by omega), e2, gsI_at, if_neg (by omega)]
  have s3 : μ3.1 6 0 3 = nI n := by rw [e3, gsI_at, if_neg (by omega), e2, gsI_s]
  have s4 : μ3.1 6 0 4 = nI 0 := by rw [e3, gsI_s]; rfl
  have m3 : μ3.2 = μ.2 := by rw [e3, e2]; rfl
  clear e2 e3
  have T3 : tkC lg tb n μ3 := ⟨s3, hn, by rw [o3 448 0 (by omega)]; exact h448, by rw [o3 449 0 (by omega)]; exact h449⟩
  refine ⟨2, _, by omega, c_X6_next (by omega) T3 (Nat.zero_le n) s4, ?_⟩
  rintro μ8 ⟨N, a8⟩
  exact ⟨fun k j hk => (N.1 k j hk).trans (o3 k j hk), fun j hj => (N.2.1 j (by omega)).trans (g3 j (by omega)), N.2.2.trans m3, T3.of N, a8⟩
theorem c_X5_readText {x2 : Int32} {n : Nat} (hx : x2 = nI n) (hn : n ≤ 700) (hd : 10 ≤ d) (he : e < 2) (h448 : ∀ k, k < n → μ.1 448 0 k = sb (tb k) ∧ tb k < 256) (h449 : ∀ z, z < 21 → μ.1 449 0 z = lg z) : Ctr l D d yX5_readText cX5_readText 5 (some .int) [.ref (D.2.2 5 0), .ref (D.2.2 7 e), .int x2] μ (pI (fun v μ' => rtF e μ μ' ∧ txQ e (txR lg tb n) v μ')) := by
  subst hx
  refine en_X5_readText (fun Γ => bl_X5_readText_0 (by decide) he ?_)
  rintro μ1 e1
  have r1 : μ1.2.2 2 = e := by rw [e1]; rfl
  have F1 : rtF e μ μ1 := by rw [e1]; exact ⟨fun _ _ _ _ => rfl, fun _ _ => rfl, rfl, rfl, rfl⟩
  clear e1
  refine ⟨by omega, ?_⟩
  rw [r1]
  refine ⟨2, _, by omega, c_X7_clear (by omega) he, ?_⟩
  rintro μ7 ⟨C7, D7⟩ _ rfl
  have F7 : lnF e μ1 μ7 := ⟨fun k j a b => C7.1 k j (by omega), fun j _ => by rw [C7.1 6 0 (by omega)], C7.2⟩
  have key : ∀ c j μ', j + c = 4 → lnF e μ1 μ' → (∀ k, ¬ k = 386 → μ'.1 k = μ7.1 k) → (∀ z, z < j → μ'.1 386 0 z = 0) → pt_X5_readText_1 l D d (fun v μ' => rtF e μ μ' ∧ txQ e (txR lg tb n) v μ') Γ 0 (nI n) (nI j) μ' := by
    intro c
    induction c with
    | zero =>
      intro j μ' hj hF hs hz
      obtain rfl : j = 4 := by omega
      have D4 : dfC μ' e df0 := D7 μ' hs hz
      refine bl_X5_readText_1 (by decide) ⟨fun _ => ?_, fun w => absurd (by decide) w⟩
      rintro μ2 e2 μ3 e3
      have o3 : ∀ k j, ¬ k = 5 → μ3.1 k j = μ'.1 k j := fun k j hk => by rw [e3, gsI_off (by omega), e2, gsI_off (by omega)]
      have N3 : nfC μ3 := ⟨by rw [e3, gsI_at, if_neg (by omega), e2, gsI_s], by rw [e3, gsI_s]⟩
      have F3 : lnF e μ1 μ3 := by rw [e3, e2]; exact hF.tr (rnF.rf.p5.p5).l
      clear e2 e3
      have D3 : dfC μ3 e df0 := D4.of (fun k hk => o3 k e (by omega)) (o3 386 0 (by omega))
      have F03 : rtF e μ μ3 := F1.tr F3.t
      refine ⟨3, _, by omega, c_X6_begin (lg := lg) (tb := tb) rfl hn (by omega) (by rw [F03.1 448 0 (by omega) (by omega)]; exact h448) (by rw [F03.1 449 0 (by omega) (by omega)]; exact h449), ?_⟩
      rintro μ8 ⟨o8, g8, m8, T8, a8⟩ _ rfl _ rfl
      have F8 : rtF e μ3 μ8 := ⟨fun k j a b => o8 k j (by omega), g8, by rw [m8], by rw [m8], by rw [m8]⟩
      have h8 : rdC lg tb n e μ8 (tkP tb n 0) df0 := ⟨by rw [m8, F3.2.2]; exact r1, T8, runE_le (Nat.zero_le n), a8, D3.of (fun k hk => o8 k e (by omega)) (o8 386 0 (by omega)), N3.of (fun j _ => by rw [o8 5 0 (by omega)])⟩
      exact readText_2 (μ0 := μ8) (by omega) he (fun v μ' hF hQ => ⟨(F03.tr F8).tr hF.t, hQ⟩) n 0 _ df0 μ8 (by omega) lnF.rf h8 df0_B df0_R rfl
    | succ c ih =>
      intro j μ' hj hF hs hz
      refine bl_X5_readText_1 (by decide) ⟨fun w => absurd ((nI_leI (by omega) (by omega)).mp w) (by omega), fun _ => ⟨j, by omega, rfl, ?_⟩⟩
      rw [nar0]
      rintro μ14 e14 _ rfl
      rw [nI_1]
      refine ih (j + 1) μ14 (by omega) (by rw [e14]; exact hF.p386) (fun k hk => ?_) (fun z hz2 => ?_)
      · funext i
        rw [e14, gsI_off (by omega), hs k hk]
      · rw [e14, gsI_at]
        by_cases ez : z = j
        · rw [if_pos ⟨rfl, rfl, ez⟩]
        · rw [if_neg (by omega)]; exact hz z (by omega)
  exact key 4 0 μ7 (by omega) F7 (fun _ _ => rfl) (fun z hz => absurd hz (Nat.not_lt_zero _))
end CT
