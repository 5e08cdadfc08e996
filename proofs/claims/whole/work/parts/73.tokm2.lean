/-- the reference stands at the token at p -/
def atM (lg : Nat → Int32) (tb : Nat → Nat) (L p : Nat) (μ : gMem) : Prop := μ.1 10 0 20 = nI (tkF lg tb L p).1 ∧ μ.1 10 0 21 = nI p ∧ μ.1 10 0 22 = sortK (tkF lg tb L p).2.1 ∧ (¬ (tkF lg tb L p).2.1 = 36 → ¬ (tkF lg tb L p).2.1 = 37 → μ.1 10 0 23 = (tkF lg tb L p).2.2.2)
/-- what the reference's word answers -/
def WordC (l : Launch) (D : gD) (lg : Nat → Int32) : Prop := ∀ (d : Nat) (μ : gMem) (tb : Nat → Nat) (L p e : Nat), tkM tb L μ → p ≤ e → e ≤ L → (∀ z, p ≤ z → z < e → ltr (tb z)) → μ.1 10 0 20 = nI e → μ.1 10 0 21 = nI p → Ctr l D d yX10_word cX10_word 4 (some .int) [.ref (D.2.2 10 0)] μ (pI (fun v μ' => v = tkW lg tb p e ∧ μ' = μ))
section TM2
variable {l : Launch} {D : gD} {d : Nat} {μ : gMem} {lg : Nat → Int32} {tb : Nat → Nat} {L : Nat}
theorem name_1 {Γ : gC} {q : gMem → Prop} {p e : Nat} {μ0 : gMem} (h : tkM tb L μ0) (hp : p ≤ e) (he : e ≤ L) (hl : ∀ z, p ≤ z → z < e → ltr (tb z)) (hq : ∀ μ', nkM μ0 μ' → (∀ j, ¬ j = 23 → μ'.1 10 0 j = μ0.1 10 0 j) → μ'.1 10 0 23 = nI (wv tb p e 6) → q μ') (h20 : μ0.1 10 0 20 = nI e) (h21 : μ0.1 10 0 21 = nI p) :
    ∀ (c i : Nat) (μ : gMem), i + c = 6 → nkM μ0 μ → (∀ j, ¬ j = 23 → μ.1 10 0 j = μ0.1 10 0 j) → μ.1 10 0 23 = nI (wv tb p e i) → pt_X10_name_1 l D d q Γ 0 (nI i) μ := by
  have h700 := h.2.1
  intro c
  induction c with
  | zero =>
    intro i μ hc hF hk hv
    obtain rfl : i = 6 := by omega
    exact bl_X10_name_1 (by decide) ⟨fun _ => hq μ hF hk hv, fun z => absurd (by decide) z⟩
  | succ c ih =>
    intro i μ hc hF hk hv
    have hT := h.of hF
    have g20 : μ.1 10 0 20 = nI e := (hk 20 (by omega)).trans h20
    have g21 : μ.1 10 0 21 + nI i = nI (p + i) := by rw [hk 21 (by omega), h21, nI_add]
    have hlt := wv_lt hl (i + 1)
    have hlt2 : wv tb p e (i + 1) < 2 ^ 30 := Nat.lt_of_lt_of_le hlt (Nat.pow_le_pow_right (by omega) (by omega))
    have sh : μ.1 10 0 23 <<< ((5 : Int32) &&& 31) = nI (wv tb p e i * 2 ^ (0 + 5)) := by
      rw [hv, show ((5 : Int32) &&& 31) = nI 5 by decide, pk_shlN _ 5 (by decide) (by rw [wv] at hlt2; omega)]
    have nx : ∀ x : Int32, ∀ y : Nat, x = nI y → wv tb p e (i + 1) = wv tb p e i * 32 + y → y < 32 → pt_X10_name_2 l D d q Γ 0 (nI i) 0 (μ.1 10 0 23 <<< ((5 : Int32) &&& 31)) x μ := by
      intro x y hx hy hy2
      refine bl_X10_name_2 (by decide) (by decide) ?_
      have ev : (μ.1 10 0 23 <<< ((5 : Int32) &&& 31)) ||| x = nI (wv tb p e (i + 1)) := by
        have := i_or (W := wv tb p e i) (c := y) (k := 0) hy2 (by omega)
        rw [sh, hx, hy]
        rw [Nat.pow_zero, Nat.mul_one, Nat.mul_one] at this
        exact this
      rw [ev, nI_1]
      rintro μ1 e1 _ rfl
      exact ih (i + 1) μ1 (by omega) (by rw [e1]; exact hF.put (by omega)) (fun j hj => by rw [e1, gsI_at, if_neg (by omega)]; exact hk j hj) (by rw [e1, gsI_s])
    refine bl_X10_name_1 (by decide) ⟨fun z => absurd z (by rw [show (6 : Int32) = nI 6 from rfl]; exact nI_ge (by omega) (by omega)), fun _ => ?_⟩
    rw [g20, g21, nI_leI (by omega) (by omega)]
    refine ⟨fun z => nx 0 0 rfl (by rw [wv, if_neg (by omega)]) (by omega), fun z => ⟨p + i, by omega, rfl, ?_⟩⟩
    have hb := hT.2.2 (p + i) (by omega)
    have z2 : 97 ≤ tb (p + i) ∧ tb (p + i) ≤ 122 := hl (p + i) (by omega) (by omega)
    refine nx _ (tb (p + i) - 96) ?_ (by rw [wv, if_pos (by omega)]) (by omega)
    rw [hb.1, show (97 : Int32) = nI 97 from rfl, pk_sub (by omega), nI_1, show tb (p + i) - 97 + 1 = tb (p + i) - 96 by omega]
theorem c_X10_name {p e : Nat} (h : tkM tb L μ) (hp : p ≤ e) (he : e ≤ L) (hl : ∀ z, p ≤ z → z < e → ltr (tb z)) (h20 : μ.1 10 0 20 = nI e) (h21 : μ.1 10 0 21 = nI p) : Ctr l D d yX10_name cX10_name 2 none [.ref (D.2.2 10 0)] μ (pV (fun μ' => nkM μ μ' ∧ (∀ j, ¬ j = 23 → μ'.1 10 0 j = μ.1 10 0 j) ∧ μ'.1 10 0 23 = nI (wv tb p e 6))) := by
  refine en_X10_name (fun Γ => bl_X10_name_0 (by decide) ?_)
  rintro μ1 e1 _ rfl
  exact name_1 (μ0 := μ) h hp he hl (fun μ' a b c => ⟨a, b, c⟩) h20 h21 6 0 μ1 (by omega) (by rw [e1]; exact nkM.rf.put (by omega)) (fun j hj => by rw [e1, gsI_at, if_neg (by omega)]) (by rw [e1, gsI_s]; rfl)
theorem token_4 {Γ : gC} {q : gMem → Prop} {e V : Nat} {μ0 : gMem} (hd : 1 ≤ d) (h : tkM tb L μ0) (hq : ∀ μ', nkM μ0 μ' → (∀ j, j = 21 ∨ j = 22 → μ'.1 10 0 j = μ0.1 10 0 j) → μ'.1 10 0 20 = nI e → μ'.1 10 0 23 = nI V → q μ') :
    ∀ (c a x : Nat) (μ : gMem), a + c = L → nkM μ0 μ → (∀ j, j = 21 ∨ j = 22 → μ.1 10 0 j = μ0.1 10 0 j) → μ.1 10 0 20 = nI a → μ.1 10 0 23 = nI x → x ≤ 1000000 → runE dgs tb L a = e → numM tb (e - a) a x = V → pt_X10_token_4 l D d q Γ 0 μ := by
  have h700 := h.2.1
  intro c
  induction c with
  | zero =>
    intro a x μ hc hF hk h4 h7 hx he hV
    have hT := h.of hF
    rw [runE_stop (by omega)] at he
    subst he
    rw [Nat.sub_self] at hV
    refine bl_X10_token_4 (by decide) ⟨0, _, by omega, c_X10_here hT (by omega) h4, ?_⟩
    rintro v μ1 ⟨ev, em⟩
    rw [em, ev, show (48 : Int32) = nI 48 from rfl, show (57 : Int32) = nI 57 from rfl, hr_iw hT (by omega) (by omega)]
    exact ⟨by omega, fun _ => hq μ hF hk h4 (by rw [h7]; exact congrArg nI hV), fun z => absurd (by omega) z⟩
  | succ c ih =>
    intro a x μ hc hF hk h4 h7 hx he hV
    have hT := h.of hF
    have hb := hT.2.2 a (by omega)
    refine bl_X10_token_4 (by decide) ⟨0, _, by omega, c_X10_here hT (by omega) h4, ?_⟩
    rintro v μ1 ⟨ev, em⟩
    rw [em, ev, show (48 : Int32) = nI 48 from rfl, show (57 : Int32) = nI 57 from rfl, hr_iw hT (by omega) (by omega)]
    refine ⟨by omega, fun z => ?_, fun z => ?_⟩
    · rw [runE_stop z] at he
      subst he
      rw [Nat.sub_self] at hV
      exact hq μ hF hk h4 (by rw [h7]; exact congrArg nI hV)
    · have z := Decidable.not_not.mp z
      rw [runE_step z] at he
      have hge : a + 1 ≤ e := by rw [← he]; exact runE_ge (a + 1)
      have go : ∀ x' : Nat, x' ≤ 1000000 → x' = (if 99999 < x then x else 10 * x + (tb a - 48)) → pt_X10_token_5 l D d q Γ 0 0 (nI x') μ := by
        intro x' h1 h2
        refine bl_X10_token_5 (by decide) (by decide) ?_
        rintro μ2 e2 μ3 e3
        have g4 : μ2.1 10 0 20 = nI a := by rw [e2, gsI_at, if_neg (by omega)]; exact h4
        rw [g4, nI_1] at e3
        refine ih (a + 1) x' μ3 (by omega) (by rw [e3, e2]; exact (hF.put (by omega)).put (by omega)) (fun j hj => ?_) (by rw [e3, gsI_s]) (by rw [e3, gsI_at, if_neg (by omega), e2, gsI_s]) h1 he ?_
        · rw [e3, gsI_at, if_neg (by omega), e2, gsI_at, if_neg (by omega)]
          exact hk j hj
        · rw [← hV, show e - a = (e - (a + 1)) + 1 by omega, numM, ← h2]
      rw [h7, show (99999 : Int32) = nI 99999 from rfl, nI_leI (by omega) (by omega)]
      refine ⟨fun w => ⟨0, _, by omega, c_X10_here hT (by omega) h4, ?_⟩, fun w => go x hx (by rw [if_pos (by omega)])⟩
      rintro v μ2 ⟨ev2, em2⟩
      have er : ((10 : Int32) * nI x + v - nI 48) = nI (10 * x + (tb a - 48)) := by
        rw [ev2, hrV, if_pos z.1, show (10 : Int32) = nI 10 from rfl, pk_mul, nI_add, pk_sub (by omega), show 10 * x + tb a - 48 = 10 * x + (tb a - 48) by omega]
      rw [er, em2]
      exact go _ (by omega) (by rw [if_neg (by omega)])
theorem token_2 {Γ : gC} {q : gMem → Prop} {p e : Nat} {μ0 : gMem} (hd : 1 ≤ d) (hW : WordC l D lg) (h : tkM tb L μ0) (hp : p ≤ L) (he : runE ltr tb L p = e) (h21 : μ0.1 10 0 21 = nI p) (hq : ∀ μ', nkM μ0 μ' → μ'.1 10 0 21 = nI p → μ'.1 10 0 20 = nI e → μ'.1 10 0 22 = sortK (wdK lg tb p e) → (¬ wdK lg tb p e = 37 → μ'.1 10 0 23 = (if tkW lg tb p e = -1 then (if 6 < e - p then -1 else nI (wv tb p e 6)) else tkW lg tb p e)) → q μ') :
    ∀ (c a : Nat) (μ : gMem), a + c = L → p ≤ a → nkM μ0 μ → μ.1 10 0 21 = nI p → μ.1 10 0 20 = nI a → runE ltr tb L a = e → pt_X10_token_2 l D d q Γ 0 μ := by
  have h700 := h.2.1
  have hl : ∀ z, p ≤ z → z < e → ltr (tb z) := fun z h1 h2 => (runE_in h1 (by rw [he]; exact h2)).2
  have hel : e ≤ L := by rw [← he]; exact runE_le hp
  have hge : p ≤ e := by rw [← he]; exact runE_ge p
  have tr : tkW lg tb p e = -1 ∨ ∃ k, k < 21 ∧ tkW lg tb p e = nI k ∧ ¬ 6 < e - p := by
    unfold tkW
    split
    · exact Or.inl rfl
    · rename_i w
      rcases fndL_rng (f := lg) (x := nI (wv tb p e 6)) 21 0 with w2 | ⟨k, _, hk, e1, _⟩
      · exact Or.inl w2
      · exact Or.inr ⟨k, by omega, e1, w⟩
  have stop : ∀ (a : Nat) (μ : gMem), p ≤ a → a ≤ L → nkM μ0 μ → μ.1 10 0 21 = nI p → μ.1 10 0 20 = nI a → runE ltr tb L a = e → ¬ (a < L ∧ ltr (tb a)) → ∃ (d_13 : Nat) (q_14 : Int32 → gMem → Prop), d_13 < d ∧ Ctr l D d_13 yX10_word cX10_word 4 (some .int) [.ref (D.2.2 10 0)] μ (pI q_14) ∧ ∀ (v_18 : Int32) (μ_17 : gMem), q_14 v_18 μ_17 → ∀ μ_20 : gMem, μ_20 = gsI μ_17 10 0 23 v_18 → (((μ_20.1 10 0 23) = (-1 : Int32)) → ((((μ_20.1 10 0 20) - (μ_20.1 10 0 21)) ≤ (6 : Int32)) → pt_X10_token_3 l D d q Γ 0 0 (1 : Int32) μ_20) ∧ ((¬ ((μ_20.1 10 0 20) - (μ_20.1 10 0 21)) ≤ (6 : Int32)) → pt_X10_token_3 l D d q Γ 0 0 (5 : Int32) μ_20)) ∧ ((¬ (μ_20.1 10 0 23) = (-1 : Int32)) → pt_X10_token_3 l D d q Γ 0 0 (0 : Int32) μ_20) := by
    intro a μ hpa hal hF hk h4 he2 hn
    rw [runE_stop hn] at he2
    subst he2
    refine ⟨0, _, by omega, hW 0 μ tb L p a (h.of hF) hpa hal hl h4 hk, ?_⟩
    rintro v μ1 ⟨ev, em⟩ μ2 e2
    rw [em, ev] at e2
    have F2 : nkM μ0 μ2 := by rw [e2]; exact hF.put (by omega)
    have a20 : μ2.1 10 0 20 = nI a := by rw [e2, gsI_at, if_neg (by omega)]; exact h4
    have a21 : μ2.1 10 0 21 = nI p := by rw [e2, gsI_at, if_neg (by omega)]; exact hk
    have a23 : μ2.1 10 0 23 = tkW lg tb p a := by rw [e2, gsI_s]
    clear e2
    rw [a20, a21, a23, pk_sub hpa, show (6 : Int32) = nI 6 from rfl, nI_leI (by omega) (by omega)]
    refine ⟨fun w => ⟨fun w6 => ?_, fun w6 => ?_⟩, fun w => ?_⟩
    · have ek : wdK lg tb p a = 35 := by rw [wdK, if_neg (by omega), if_pos w]
      refine bl_X10_token_3 (by decide) (by decide) ?_
      rintro μ3 e3
      have F3 : nkM μ0 μ3 := by rw [e3]; exact F2.put (by omega)
      have b : ∀ j, ¬ j = 22 → μ3.1 10 0 j = μ2.1 10 0 j := fun j hj => by rw [e3, gsI_at, if_neg (by omega)]
      have b22 : μ3.1 10 0 22 = 1 := by rw [e3, gsI_s]
      rw [b22]
      refine ⟨fun z => absurd rfl z, fun _ => ⟨0, _, by omega, c_X10_name (h.of F3) hpa hal hl (by rw [b 20 (by omega)]; exact a20) (by rw [b 21 (by omega)]; exact a21), ?_⟩⟩
      rintro μ4 ⟨F4, o4, v4⟩
      refine hq μ4 (F3.tr F4) (by rw [o4 21 (by omega), b 21 (by omega)]; exact a21) (by rw [o4 20 (by omega), b 20 (by omega)]; exact a20) (by rw [o4 22 (by omega), b22, ek]; rfl) (fun _ => ?_)
      rw [v4, if_pos w, if_neg (by omega)]
    · have ek : wdK lg tb p a = 37 := by rw [wdK, if_pos (by omega)]
      refine bl_X10_token_3 (by decide) (by decide) ?_
      rintro μ3 e3
      have F3 : nkM μ0 μ3 := by rw [e3]; exact F2.put (by omega)
      have b : ∀ j, ¬ j = 22 → μ3.1 10 0 j = μ2.1 10 0 j := fun j hj => by rw [e3, gsI_at, if_neg (by omega)]
      have b22 : μ3.1 10 0 22 = 5 := by rw [e3, gsI_s]
      rw [b22]
      exact ⟨fun _ => hq μ3 F3 (by rw [b 21 (by omega)]; exact a21) (by rw [b 20 (by omega)]; exact a20) (by rw [b22, ek]; rfl) (fun z => absurd ek z), fun z => absurd z (by decide)⟩
    · rcases tr with w2 | ⟨k, hk21, ek, e6⟩
      · exact absurd w2 w
      have ed : wdK lg tb p a = nI k := by rw [wdK, if_neg e6, if_neg w, ek]
      have es : sortK (nI k) = 0 := by
        have : ∀ k, k < 21 → sortK (nI k) = 0 := by decide
        exact this k hk21
      refine bl_X10_token_3 (by decide) (by decide) ?_
      rintro μ3 e3
      have F3 : nkM μ0 μ3 := by rw [e3]; exact F2.put (by omega)
      have b : ∀ j, ¬ j = 22 → μ3.1 10 0 j = μ2.1 10 0 j := fun j hj => by rw [e3, gsI_at, if_neg (by omega)]
      have b22 : μ3.1 10 0 22 = 0 := by rw [e3, gsI_s]
      rw [b22]
      exact ⟨fun _ => hq μ3 F3 (by rw [b 21 (by omega)]; exact a21) (by rw [b 20 (by omega)]; exact a20) (by rw [b22, ed, es]) (fun _ => by rw [b 23 (by omega), a23, if_neg w]), fun z => absurd z (by decide)⟩
  have st : ∀ (a : Nat) (μ : gMem), p ≤ a → a ≤ L → nkM μ0 μ → μ.1 10 0 21 = nI p → μ.1 10 0 20 = nI a → runE ltr tb L a = e → (a < L ∧ ltr (tb a) → ∀ μ_23 : gMem, μ_23 = gsI μ 10 0 20 ((μ.1 10 0 20) + (1 : Int32)) → pt_X10_token_2 l D d q Γ 0 μ_23) → pt_X10_token_2 l D d q Γ 0 μ := by
    intro a μ hpa hal hF hk h4 he2 on
    have hT := h.of hF
    refine bl_X10_token_2 (by decide) ⟨0, _, by omega, c_X10_here hT (by omega) h4, ?_⟩
    rintro v μ1 ⟨ev, em⟩
    rw [em, ev, show (97 : Int32) = nI 97 from rfl, show (122 : Int32) = nI 122 from rfl, hr_iw hT (by omega) (by omega)]
    exact ⟨by omega, fun z => stop a μ hpa hal hF hk h4 he2 z, fun z => on (Decidable.not_not.mp z)⟩
  intro c
  induction c with
  | zero => exact fun a μ hc hpa hF hk h4 he2 => st a μ hpa (by omega) hF hk h4 he2 (fun z => by omega)
  | succ c ih =>
    intro a μ hc hpa hF hk h4 he2
    refine st a μ hpa (by omega) hF hk h4 he2 (fun z => ?_)
    rintro μ1 e1
    rw [h4, nI_1] at e1
    refine ih (a + 1) μ1 (by omega) (by omega) (by rw [e1]; exact hF.put (by omega)) (by rw [e1, gsI_at, if_neg (by omega)]; exact hk) (by rw [e1, gsI_s]) ?_
    rw [← runE_step z]
    exact he2
theorem c_X10_token {a : Nat} (hd : 2 ≤ d) (hW : WordC l D lg) (h : tkM tb L μ) (ha : a ≤ L) (h4 : μ.1 10 0 20 = nI a) : Ctr l D d yX10_token cX10_token 2 none [.ref (D.2.2 10 0)] μ (pV (fun μ' => nkM μ μ' ∧ atM lg tb L (tkP tb L a) μ')) := by
  have h700 := h.2.1
  have hple : tkP tb L a ≤ L := runE_le ha
  refine en_X10_token (fun Γ => ?_)
  generalize hp : tkP tb L a = p
  rw [hp] at hple
  have hp2 : runE spc tb L a = p := hp
  clear hp
  generalize hq : (fun μ' : gMem => nkM μ μ' ∧ atM lg tb L p μ') = q
  have stop : ∀ (μ1 : gMem), nkM μ μ1 → μ1.1 10 0 20 = nI p → ∀ μ_17 : gMem, μ_17 = gsI μ1 10 0 21 (μ1.1 10 0 20) → ∃ (d_18 : Nat) (q_19 : Int32 → gMem → Prop), d_18 < d ∧ Ctr l D d_18 yX10_here cX10_here 1 (some .int) [.ref (D.2.2 10 0)] μ_17 (pI q_19) ∧ ∀ (v_23 : Int32) (μ_22 : gMem), q_19 v_23 μ_22 → ∀ x1_25 : Int32, x1_25 = v_23 → ((¬ x1_25 = (-1 : Int32)) → (0 < d) ∧ ((((iw x1_25 (97 : Int32) (122 : Int32)) = 0) → (0 < d) ∧ ((((iw x1_25 (48 : Int32) (57 : Int32)) = 0) → ∃ (d_37 : Nat) (q_38 : gMem → Prop), d_37 < d ∧ Ctr l D d_37 yX10_sign cX10_sign 2 none [.ref (D.2.2 10 0), .int x1_25] μ_22 (pV q_38) ∧ ∀ (μ_41 : gMem), q_38 μ_41 → q μ_41) ∧ ((¬ (iw x1_25 (48 : Int32) (57 : Int32)) = 0) → ∀ μ_44 : gMem, μ_44 = gsI μ_22 10 0 22 (2 : Int32) → ∀ μ_45 : gMem, μ_45 = gsI μ_44 10 0 23 (0 : Int32) → pt_X10_token_4 l D d q Γ 0 μ_45))) ∧ ((¬ (iw x1_25 (97 : Int32) (122 : Int32)) = 0) → pt_X10_token_2 l D d q Γ 0 μ_22))) ∧ ((x1_25 = (-1 : Int32)) → ∀ μ_46 : gMem, μ_46 = gsI μ_22 10 0 22 (4 : Int32) → q μ_46) := by
    intro μ1 F1 s1 μ2 e2
    rw [s1] at e2
    have F2 : nkM μ μ2 := by rw [e2]; exact F1.put (by omega)
    have a20 : μ2.1 10 0 20 = nI p := by rw [e2, gsI_at, if_neg (by omega)]; exact s1
    have a21 : μ2.1 10 0 21 = nI p := by rw [e2, gsI_s]
    clear e2
    have T2 := h.of F2
    refine ⟨0, _, by omega, c_X10_here T2 hple a20, ?_⟩
    rintro v μ3 ⟨ev, em⟩ x ex
    rw [em, ex, ev, show (97 : Int32) = nI 97 from rfl, show (122 : Int32) = nI 122 from rfl, show (48 : Int32) = nI 48 from rfl, show (57 : Int32) = nI 57 from rfl, hr_iw T2 (by omega) (by omega), hr_iw T2 (by omega) (by omega)]
    have m1 : hrV tb L p = -1 ↔ ¬ p < L := by
      unfold hrV
      split
      · rename_i w
        have := (T2.2.2 p w).2
        exact ⟨fun z => absurd z (nI_nm1 (by omega)), fun z => absurd w z⟩
      · rename_i w; exact ⟨fun _ => w, fun _ => rfl⟩
    rw [m1, ← hq]
    unfold atM
    refine ⟨fun z => ?_, fun z => ?_⟩
    · have z := Decidable.not_not.mp z
      refine ⟨by omega, fun z1 => ⟨by omega, fun z2 => ?_, fun z2 => ?_⟩, fun z1 => ?_⟩
      · refine ⟨1, _, by omega, c_X10_sign (by omega) T2 z a20 (by rw [hrV, if_pos z]), ?_⟩
        rw [tkF, if_neg (by omega), if_neg (fun w : ltr (tb p) => z1 ⟨z, w⟩), if_neg (fun w : dgs (tb p) => z2 ⟨z, w⟩)]
        rintro μ4 ⟨F4, u20, u21, u22, u23⟩
        exact ⟨F2.tr F4, u20, by rw [u21]; exact a21, u22, fun _ w => u23 w⟩
      · rintro μ4 e4 μ5 e5
        have F5 : nkM μ μ5 := by rw [e5, e4]; exact (F2.put (by omega)).put (by omega)
        have b20 : μ5.1 10 0 20 = nI p := by rw [e5, gsI_at, if_neg (by omega), e4, gsI_at, if_neg (by omega)]; exact a20
        have b21 : μ5.1 10 0 21 = nI p := by rw [e5, gsI_at, if_neg (by omega), e4, gsI_at, if_neg (by omega)]; exact a21
        have b22 : μ5.1 10 0 22 = 2 := by rw [e5, gsI_at, if_neg (by omega), e4, gsI_s]
        have b23 : μ5.1 10 0 23 = nI 0 := by rw [e5, gsI_s]; rfl
        rw [tkF, if_neg (by omega), if_neg (fun w : ltr (tb p) => z1 ⟨z, w⟩), if_pos (show dgs (tb p) from (Decidable.not_not.mp z2).2)]
        refine token_4 (by omega) (h.of F5) (e := runE dgs tb L p) (V := numM tb (runE dgs tb L p - p) p 0) ?_ (L - p) p 0 μ5 (by omega) nkM.rf (fun _ _ => rfl) b20 b23 (by omega) rfl rfl
        intro μ6 F6 k6 s6 v6
        exact ⟨F5.tr F6, s6, by rw [k6 21 (by omega)]; exact b21, by rw [k6 22 (by omega), b22]; rfl, fun _ _ => v6⟩
      · have zl := (Decidable.not_not.mp z1).2
        rw [tkF, if_neg (by omega), if_pos (show ltr (tb p) from zl)]
        refine token_2 (by omega) hW T2 hple rfl a21 ?_ (L - p) p μ2 (by omega) (Nat.le_refl _) nkM.rf a21 a20 rfl
        intro μ6 F6 t21 t20 t22 t23
        exact ⟨F2.tr F6, t20, t21, t22, fun _ w => t23 w⟩
    · rintro μ4 e4
      rw [tkF, if_pos z]
      exact ⟨by rw [e4]; exact F2.put (by omega), by rw [e4, gsI_at, if_neg (by omega)]; exact a20, by rw [e4, gsI_at, if_neg (by omega)]; exact a21, by rw [e4, gsI_s]; rfl, fun w => absurd rfl w⟩
  have st : ∀ (a : Nat) (μ1 : gMem), a ≤ L → nkM μ μ1 → μ1.1 10 0 20 = nI a → runE spc tb L a = p → (a < L ∧ spc (tb a) → pt_X10_token_1 l D d q Γ 0 μ1) → pt_X10_token_0 l D d q Γ 0 μ1 := by
    intro a μ1 hal F1 s1 hp on
    have T1 := h.of F1
    have c : ∀ c, c < 256 → nxB tb L a = c → a < L ∧ tb a = c := by
      intro c hc w
      unfold nxB at w
      by_cases z : a < L
      · rw [if_pos z] at w; exact ⟨z, w⟩
      · rw [if_neg z] at w; omega
    refine bl_X10_token_0 (by decide) ⟨0, _, by omega, c_X10_here T1 hal s1, ?_⟩
    rintro v μ3 ⟨ev, em⟩
    rw [em, ev, show (10 : Int32) = nI 10 from rfl, hr_eq T1 (by omega)]
    refine ⟨fun z => on ⟨(c 10 (by omega) z).1, Or.inl (c 10 (by omega) z).2⟩, fun z => ⟨0, _, by omega, c_X10_here T1 hal s1, ?_⟩⟩
    rintro v2 μ4 ⟨ev2, em2⟩
    rw [em2, ev2, show (32 : Int32) = nI 32 from rfl, hr_eq T1 (by omega)]
    refine ⟨fun z2 => ?_, fun z2 => on ⟨(c 32 (by omega) z2).1, Or.inr (c 32 (by omega) z2).2⟩⟩
    rw [runE_stop (fun w => by
      unfold nxB at z z2
      rw [if_pos w.1] at z z2
      exact w.2.elim z z2)] at hp
    subst hp
    exact stop μ1 F1 s1
  have main : ∀ (c a : Nat) (μ1 : gMem), a + c = L → nkM μ μ1 → μ1.1 10 0 20 = nI a → runE spc tb L a = p → pt_X10_token_0 l D d q Γ 0 μ1 := by
    intro c
    induction c with
    | zero => exact fun a μ1 hc F1 s1 hp => st a μ1 (by omega) F1 s1 hp (fun z => by omega)
    | succ c ih =>
      intro a μ1 hc F1 s1 hp
      refine st a μ1 (by omega) F1 s1 hp (fun z => bl_X10_token_1 (by decide) ?_)
      rintro μ2 e2
      rw [s1, nI_1] at e2
      refine ih (a + 1) μ2 (by omega) (by rw [e2]; exact F1.put (by omega)) (by rw [e2, gsI_s]) ?_
      rw [← runE_step z]
      exact hp
  exact main (L - a) a μ (by omega) nkM.rf h4 hp2
theorem c_token {p : Nat} (hd : 2 ≤ d) (hW : WordC l D lg) (h : tkM tb L μ) (hp : p ≤ L) (ha : atM lg tb L p μ) : Ctr l D d yX10_token cX10_token 2 none [.ref (D.2.2 10 0)] μ (pV (fun μ' => nkM μ μ' ∧ atM lg tb L (nxP lg tb L p) μ')) := c_X10_token hd hW h (tkF_le hp) ha.1
end TM2
