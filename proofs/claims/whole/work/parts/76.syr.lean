/-! a formula is read by the class -/
def fkF (t : Nat) (μ μ' : gMem) : Prop := (∀ k j, ¬ (j = 0 ∧ (k = 1 ∨ k = 128 ∨ k = 130 ∨ k = 6)) → ¬ (j = t ∧ (k = 2 ∨ k = 192 ∨ k = 193)) → μ'.1 k j = μ.1 k j) ∧ (∀ j, ¬ (6 ≤ j ∧ j ≤ 8) → μ'.1 2 t j = μ.1 2 t j) ∧ (∀ j, ¬ (4 ≤ j ∧ j ≤ 7) → μ'.1 6 0 j = μ.1 6 0 j) ∧ μ'.2 = μ.2
theorem fkF.rf {t : Nat} {μ : gMem} : fkF t μ μ := ⟨fun _ _ _ _ => rfl, fun _ _ => rfl, fun _ _ => rfl, rfl⟩
theorem fkF.tr {t : Nat} {μ μ1 μ2 : gMem} (h : fkF t μ μ1) (h2 : fkF t μ1 μ2) : fkF t μ μ2 := ⟨fun k j a b => (h2.1 k j a b).trans (h.1 k j a b), fun j a => (h2.2.1 j a).trans (h.2.1 j a), fun j a => (h2.2.2.1 j a).trans (h.2.2.1 j a), h2.2.2.2.trans h.2.2.2⟩
theorem fmF.k {t : Nat} {μ μ' : gMem} (h : fmF t μ μ') : fkF t μ μ' := ⟨fun k j a b => h.1 k j (by omega) b, h.2.1, fun j _ => by rw [h.1 6 0 (by omega) (by omega)], h.2.2⟩
theorem nkF.k {t : Nat} {μ μ' : gMem} (h : nkF μ μ') : fkF t μ μ' := ⟨fun k j a b => h.1 k j (by omega), fun j _ => by rw [h.1 2 t (by omega)], h.2.1, h.2.2⟩
section SR
variable {l : Launch} {D : gD} {d : Nat} {μ : gMem} {t : Nat} {c : cdT} {f n : Nat} {W : List Int32} {cm : Nat → Bool} {o : Nat} {w nm : Bool} {lg : Nat → Int32} {tb : Nat → Nat} {L : Nat}
theorem tkC.fk {μ' : gMem} (h : tkC lg tb L μ) (hF : fkF t μ μ') : tkC lg tb L μ' := by
  refine ⟨by rw [hF.2.2.1 3 (by omega)]; exact h.1, h.2.1, fun k hk => ?_, fun z hz => ?_⟩
  · rw [hF.1 448 0 (by omega) (by omega)]; exact h.2.2.1 k hk
  · rw [hF.1 449 0 (by omega) (by omega)]; exact h.2.2.2 z hz
theorem atC.fm {μ' : gMem} {p : Nat} (h : atC lg tb L p μ) (hF : fmF t μ μ') : atC lg tb L p μ' := by
  unfold atC
  rw [hF.1 6 0 (by omega) (by omega)]
  exact h
theorem fmC.nk {μ' : gMem} (h : fmC μ t W cm o w nm c f n) (hF : nkF μ μ') : fmC μ' t W cm o w nm c f n := by
  unfold fmC lwC
  rw [hF.1 1 0 (by omega), hF.1 128 0 (by omega), hF.1 130 0 (by omega), hF.1 2 t (by omega), hF.1 192 t (by omega), hF.1 193 t (by omega)]
  exact h
theorem tkF_gt {p : Nat} (h : p < L) : p < (tkF lg tb L p).1 := by
  unfold tkF
  rw [if_neg (by omega)]
  split
  · rename_i z
    show p < runE ltr tb L p
    rw [runE_step ⟨h, z⟩]
    have := runE_ge (P := ltr) (tb := tb) (L := L) (p + 1)
    omega
  split
  · rename_i z
    show p < runE dgs tb L p
    rw [runE_step ⟨h, z⟩]
    have := runE_ge (P := dgs) (tb := tb) (L := L) (p + 1)
    omega
  · show p < p + sgL _ _
    have := sgL_le (b := tb p) (nx := nxB tb L (p + 1))
    omega
theorem nxP_gt {p : Nat} (h : p < L) : p < nxP lg tb L p := Nat.lt_of_lt_of_le (tkF_gt h) (runE_ge _)
theorem tkK_end {p : Nat} (h : ¬ p < L) : tkK lg tb L p = 36 := by
  unfold tkK tkF
  rw [if_pos h]
theorem can_end {cb : Bool} {p : Nat} (h : canP w nm cb o (tkK lg tb L p)) : p < L := by
  by_cases z : p < L
  · exact z
  · exfalso
    rw [tkK_end z] at h
    rcases h with ⟨-, a | a | a⟩ | ⟨-, a | ⟨-, a | a | a | a⟩⟩
    · exact absurd a (by decide)
    · exact absurd a (by decide)
    · exact absurd a.1 (by decide)
    · exact absurd a.1 (by decide)
    · exact absurd a (by decide)
    · exact absurd a (by decide)
    · exact absurd a (by decide)
    · exact absurd a.1 (by decide)
/-- the answer of a formula that was read -/
def riQ (lg : Nat → Int32) (tb : Nat → Nat) (L t r : Nat) (R : Option rsT) (v : Int32) (μ' : gMem) : Prop := ∃ p, p ≤ L ∧ atC lg tb L p μ' ∧ ((¬ v = 0 ∧ R = some (.inl (v, p))) ∨ (v = 0 ∧ ∃ c' f', R = some (.inr (p, c', f', f')) ∧ f' ≤ 64 ∧ lwC μ' t c' f' ∧ μ'.1 2 t 7 = nI f' ∧ μ'.1 195 t r = nI f'))
theorem readInto_3 {Γ : gC} {q : Int32 → gMem → Prop} {r p m : Nat} {R : Option rsT} {μ0 : gMem} (hd : 2 ≤ d) (ht : t < 2) (hr : r < 3) (hq : ∀ v μ', (∃ μ1, fkF t μ0 μ1 ∧ (μ' = μ1 ∨ ∃ x, μ' = gsI μ1 195 t r x)) → riQ lg tb L t r R v μ' → q v μ') (hF : fkF t μ0 μ) (h : fmC μ t W cm o w nm c f n) (hK : fmK W o f n) (hp : p ≤ L) (hat : atC lg tb L p μ) (hn : ¬ canP w nm (cm o) o (tkK lg tb L p)) (hR : syR lg tb L (m + 1) p W cm o w nm c f n = R) : pt_X1_readInto_3 l D d q Γ 0 t (nI r) μ := by
  rw [syR, if_pos hn] at hR
  have h0 := h
  obtain ⟨⟨h1, hrw⟩, h3, h130, h4, h5, hL, h7⟩ := h
  obtain ⟨k1, k2, k3, k4, k5⟩ := hK
  have hlen := cn_len W
  have o0 : nI o ≤ 0 ↔ ¬ 0 < o := by
    have := nI_leI (a := o) (b := 0) (by omega) (by omega)
    rw [show (0 : Int32) = nI 0 from rfl, this]
    omega
  have bad : (w = true ∨ 0 < o) → q 1 μ := by
    intro z
    rw [if_pos z] at hR
    exact hq 1 μ ⟨μ, hF, Or.inl rfl⟩ ⟨p, hp, hat, Or.inl ⟨by decide, hR.symm⟩⟩
  refine bl_X1_readInto_3 (by decide) ht ?_
  rw [h4, h3, bB_0, o0]
  refine ⟨fun z => bad (Or.inl (by cases w; exact absurd rfl z; rfl)), fun z => ⟨fun z2 => ?_, fun z2 => bad (Or.inr (Decidable.not_not.mp z2))⟩⟩
  rw [if_neg (by rw [z]; intro e; rcases e with e | e; exact absurd e (by decide); exact z2 e)] at hR
  have hrc := rel_cn (s := 1) (by omega) W c f
  have hnil := rel1_nil W c f (by omega)
  have ef : (rel 1 W c f).2.2 = n := by
    rw [hnil] at hrc
    have : cnS [] = 0 := rfl
    omega
  refine ⟨1, _, by omega, c_X1_release (s := 1) (W := W) rfl ht (by omega) (by omega) (by omega) (by omega) (by omega) k5 h1 hrw hL, ?_⟩
  rintro μ7 ⟨F7, p7, q7, s7, s1, r7, L7⟩
  refine ⟨0, fun μ' => μ' = gsI μ7 195 t r (μ7.1 2 t 6), by omega, en_X2_end (fun Γ => bl_X2_end_0 ht ⟨r, hr, rfl, fun _ e => e⟩), ?_⟩
  rintro μ8 e8
  refine hq 0 μ8 ⟨μ7, hF.tr F7.k, Or.inr ⟨_, e8⟩⟩ ⟨p, hp, ?_, Or.inr ⟨rfl, (rel 1 W c f).2.1, (rel 1 W c f).2.2, ?_, by omega, ?_, ?_, ?_⟩⟩
  · unfold atC
    rw [e8, gsI_off (by omega)]
    exact hat.fm F7
  · rw [← hR, ef]
  · exact L7.of (fun k hk => by rw [e8, gsI_off (by omega)])
  · rw [e8, gsI_off (by omega), s7, h7, ef]
  · rw [e8, gsI_s]; exact L7.1
theorem readInto_1 {Γ : gC} {q : Int32 → gMem → Prop} {r : Nat} {R : Option rsT} {μ0 : gMem} (hd : 4 ≤ d) (ht : t < 2) (hr : r < 3) (hT : tkC lg tb L μ0) (hq : ∀ v μ', (∃ μ1, fkF t μ0 μ1 ∧ (μ' = μ1 ∨ ∃ x, μ' = gsI μ1 195 t r x)) → riQ lg tb L t r R v μ' → q v μ') :
    ∀ (lf m p : Nat) (W : List Int32) (cm : Nat → Bool) (o : Nat) (w nm : Bool) (c : cdT) (f n : Nat) (μ : gMem), lf ≤ 700 → L ≤ p + lf → L < p + m → fkF t μ0 μ → fmC μ t W cm o w nm c f n → fmK W o f n → p ≤ L → atC lg tb L p μ → syR lg tb L m p W cm o w nm c f n = R → pt_X1_readInto_1 l D d q Γ 0 t (nI r) 0 (nI lf) μ := by
  intro lf
  induction lf with
  | zero =>
    intro m p W cm o w nm c f n μ hlf h1 h2 hF hm hK hp hat hR
    obtain ⟨m', rfl⟩ : ∃ m', m = m' + 1 := ⟨m - 1, by omega⟩
    refine bl_X1_readInto_1 (by decide) ht (by decide) ⟨fun _ => readInto_3 (by omega) ht hr hq hF hm hK hp hat (fun z => by have := can_end z; omega) hR, fun z => absurd (by decide) z⟩
  | succ lf ih =>
    intro m p W cm o w nm c f n μ hlf h1 h2 hF hm hK hp hat hR
    obtain ⟨m', rfl⟩ : ∃ m', m = m' + 1 := ⟨m - 1, by omega⟩
    have hK0 := hK
    obtain ⟨k1, k2, k3, k4, k5⟩ := hK
    have hlen := cn_len W
    have e5 : μ.1 6 0 5 = tkK lg tb L p := hat.2.1
    have e7 : μ.1 6 0 7 = tkV lg tb L p := hat.2.2.2
    refine bl_X1_readInto_1 (by decide) ht (by decide) ⟨fun z => absurd z (nI_nle (by omega) (by omega)), fun _ => ?_⟩
    refine ⟨2, _, by omega, c_X1_canStand (by omega) hm k4, ?_⟩
    rw [e5]
    rintro v μ6 ⟨ev, em⟩
    rw [em, ev]
    by_cases hc : canP w nm (cm o) o (tkK lg tb L p)
    · have hpL := can_end hc
      have hnx := nxP_gt (lg := lg) (tb := tb) hpL
      have hnl := nxP_le (lg := lg) (tb := tb) hp
      rw [bI, if_pos hc]
      refine ⟨fun z => absurd z (by decide), fun _ => ⟨0, _, by omega, c_X1_isTooMuch (n := n) hm.2.2.2.2.2.2 k2 hm k4, ?_⟩⟩
      rw [e5, e7]
      rintro v2 μ14 ⟨ev2, em2⟩
      rw [em2, ev2]
      rw [syR, if_neg (fun z => z hc)] at hR
      by_cases ht2 : tooP o n (tkK lg tb L p) (tkV lg tb L p)
      · rw [bI, if_pos ht2]
        rw [if_pos ht2] at hR
        exact ⟨fun z => absurd z (by decide), fun _ => hq 2 μ ⟨μ, hF, Or.inl rfl⟩ ⟨p, hp, hat, Or.inl ⟨by decide, hR.symm⟩⟩⟩
      rw [bI, if_neg ht2]
      rw [if_neg ht2] at hR
      refine ⟨fun _ => ⟨by omega, ?_⟩, fun z => absurd rfl z⟩
      have h7 := hm.2.2.2.2.2.2
      rw [e5]
      -- then on to the next token
      have nx : ∀ (μ1 : gMem) (W' : List Int32) (cm' : Nat → Bool) (o' : Nat) (w' nm' : Bool) (c' : cdT) (f' n' : Nat), fmF t μ μ1 → fmC μ1 t W' cm' o' w' nm' c' f' n' → fmK W' o' f' n' → syR lg tb L m' (nxP lg tb L p) W' cm' o' w' nm' c' f' n' = R → pt_X1_readInto_2 l D d q Γ 0 t (nI r) 0 (nI (lf + 1)) μ1 := by
        intro μ1 W' cm' o' w' nm' c' f' n' F1 m1 K1 R1
        refine bl_X1_readInto_2 (by decide) ht (by decide) ⟨2, _, by omega, c_next (by omega) (hT.fk (hF.tr F1.k)) hp (hat.fm F1), ?_⟩
        rintro μ2 ⟨N2, a2⟩ x4 e4
        rw [pk_m1] at e4
        rw [e4]
        exact ih m' (nxP lg tb L p) W' cm' o' w' nm' c' f' n' μ2 (by omega) (by omega) (by omega) ((hF.tr F1.k).tr N2.k) (m1.nk N2) K1 hnl a2 R1
      have iv : ivl (tkK lg tb L p) = 0 ↔ ¬ isV (tkK lg tb L p) := by
        unfold ivl isV
        by_cases e : tkK lg tb L p = 34
        · rw [if_pos e]
          exact ⟨fun z => absurd z (by decide), fun z => absurd (Or.inl e) z⟩
        · rw [if_neg e, iw_lit (za := 14) (zb := 20) (by decide) (by decide)]
          exact ⟨fun z w => w.elim e z, fun z w => z (Or.inr w)⟩
      rw [iv]
      -- one knot more
      have more : ∀ μ25 : gMem, μ25 = gsI μ 2 t 7 (μ.1 2 t 7 + (1 : Int32)) → fmF t μ μ25 ∧ fmC μ25 t W cm o w nm c f (n + 1) ∧ μ25.1 6 0 = μ.1 6 0 := by
        intro μ25 e25
        rw [h7, nI_1] at e25
        refine ⟨by rw [e25]; exact fmF.rf.p2 (by omega), ?_, by rw [e25, gsI_off (by omega)]⟩
        obtain ⟨⟨a1, hrw⟩, a3, a130, a4, a5, aL, a7⟩ := hm
        have g : ∀ k j, ¬ (k = 2 ∧ j = t) → μ25.1 k j = μ.1 k j := fun k j hk => by rw [e25, gsI_off (by omega)]
        have g2 : ∀ j, ¬ j = 7 → μ25.1 2 t j = μ.1 2 t j := fun j hj => by rw [e25, gsI_at, if_neg (by omega)]
        refine ⟨⟨by rw [g 1 0 (by omega)]; exact a1, by rw [g 128 0 (by omega)]; exact hrw⟩, by rw [g 1 0 (by omega)]; exact a3, by rw [g 130 0 (by omega)]; exact a130, by rw [g 1 0 (by omega)]; exact a4, by rw [g 1 0 (by omega)]; exact a5, ?_, by rw [e25, gsI_s]⟩
        unfold lwC
        rw [g2 6 (by omega), g2 8 (by omega), g 192 t (by omega), g 193 t (by omega)]
        exact aL
      have nlt : ∀ k : Int32, tkK lg tb L p = k → ¬ k = 31 → ¬ k = 32 → n + 1 ≤ 64 := by
        intro k ek n1 n2
        by_cases z : 64 ≤ n
        · exact absurd (Or.inr ⟨by rw [ek]; exact n1, by rw [ek]; exact n2, Or.inl z⟩) ht2
        · omega
      by_cases hv : isV (tkK lg tb L p)
      · refine ⟨fun z => absurd hv z, fun _ => ?_⟩
        rw [if_pos hv] at hR
        have v31 : ¬ tkK lg tb L p = 31 := fun e => by rw [e] at hv; exact absurd hv (by decide)
        have v32 : ¬ tkK lg tb L p = 32 := fun e => by rw [e] at hv; exact absurd hv (by decide)
        have hn64 := nlt _ rfl v31 v32
        rintro μ25 e25
        obtain ⟨F25, m25, g6⟩ := more μ25 e25
        obtain ⟨⟨a1, hrw⟩, a3, a130, a4, a5, aL, a7⟩ := m25
        rw [g6, e5, e7]
        refine ⟨0, _, by omega, c_X2_add ht aL (by omega) ?_, ?_⟩
        · by_cases e19 : tkK lg tb L p = 19
          · exact Or.inl e19
          · refine Or.inr (fun z => ?_)
            unfold ck at z
            by_cases e34 : tkK lg tb L p = 34
            · rw [if_pos e34] at z
              exact absurd (congrArg Prod.fst z) (show ¬ (0 : Int32) = 1 by decide)
            · rw [if_neg e34] at z
              split at z
              · exact absurd (congrArg Prod.fst z) (show ¬ (2 : Int32) = 1 by decide)
              · have z2 : tkK lg tb L p - 14 = 5 := congrArg Prod.snd z
                apply e19
                have hin := hv.resolve_left e34
                obtain ⟨ei, el⟩ := isM_ix (m := 21) (x := tkK lg tb L p) ⟨by have := hin.1; omega, by have := hin.2; omega⟩
                have all : ∀ k, k < 21 → nI k - 14 = 5 → nI k = 19 := by decide
                rw [ei] at z2 ⊢
                exact all _ el z2
        · rintro μ26 ⟨F26, k26, n26, L26⟩ μ27 e27
          have q27 : ∀ j, ¬ j = 4 → μ27.1 1 0 j = μ26.1 1 0 j := fun j hj => by rw [e27, gsI_at, if_neg (by omega)]
          have o27 : ∀ k j, ¬ (k = 1 ∧ j = 0) → μ27.1 k j = μ26.1 k j := fun k j hk => by rw [e27, gsI_off (by omega)]
          refine nx μ27 W cm o false nm _ _ _ ((F25.tr F26).tr (by rw [e27]; exact fmF.rf.p0 (by omega))) ⟨⟨by rw [q27 1 (by omega), k26 1 0 (by omega)]; exact a1, by rw [o27 128 0 (by omega), k26 128 0 (by omega)]; exact hrw⟩, by rw [q27 3 (by omega), k26 1 0 (by omega)]; exact a3, by rw [o27 130 0 (by omega), k26 130 0 (by omega)]; exact a130, by rw [e27, gsI_s]; rfl, by rw [q27 5 (by omega), k26 1 0 (by omega)]; exact a5, L26.of (fun k hk => o27 k t (by omega)), by rw [o27 2 t (by omega), n26]; exact a7⟩ ⟨by omega, hn64, k3, k4, k5⟩ hR
      · rw [if_neg hv] at hR
        refine ⟨fun _ => ⟨fun n31 => ⟨fun n32 => ?_, fun z32 => ?_⟩, fun z31 => ?_⟩, fun z => absurd hv z⟩
        · rw [if_neg n31, if_neg n32] at hR
          have hn64 := nlt _ rfl n31 n32
          rintro μ25 e25
          obtain ⟨F25, m25, g6⟩ := more μ25 e25
          rw [g6, e5]
          have hs1 : 1 ≤ str (tkK lg tb L p) := by
            by_cases z : 1 ≤ str (tkK lg tb L p)
            · exact z
            · exact absurd (str_0 (by omega)) n31
          have hrc := rel_cn hs1 W c f
          refine ⟨3, _, by omega, c_X1_takeSign (by omega) ht m25 (by omega) k3 k4 k5 n31, ?_⟩
          rintro μ30 ⟨F30, s13, sno⟩
          have kk : ¬ tkK lg tb L p = 34 ∧ ¬ inR (tkK lg tb L p) 14 20 := ⟨fun z => hv (Or.inl z), fun z => hv (Or.inr z)⟩
          by_cases e13 : tkK lg tb L p = 13
          · rw [if_pos e13] at hR
            refine nx μ30 _ _ _ _ _ _ _ _ (F25.tr F30) (s13 e13) ⟨?_, hn64, ?_, k4, fun k hk => ?_⟩ hR
            · show f + (1 + cnS W) = n + 1
              omega
            · show 0 + cnO W = o
              omega
            · rcases List.mem_cons.mp hk with e | e
              · rw [e]; exact Or.inr (by decide)
              · exact k5 k e
          · rw [if_neg e13] at hR
            refine nx μ30 _ _ _ _ _ _ _ _ (F25.tr F30) (sno e13) ⟨?_, hn64, ?_, k4, fun k hk => ?_⟩ hR
            · rw [cnS, if_neg n31]; omega
            · rw [cnO, if_neg n31]; omega
            · rcases List.mem_cons.mp hk with e | e
              · rw [e]; exact Or.inr kk
              · exact rel_mem W c f k5 k e
        · rw [if_neg n31, if_pos z32] at hR
          have ho : 0 < o := by
            rw [z32] at hc
            rcases hc with ⟨-, a | a | a⟩ | ⟨-, a | ⟨a, -⟩⟩
            · exact absurd a (by decide)
            · exact absurd a (by decide)
            · exact absurd a.1 (by decide)
            · exact a.2
            · exact absurd rfl a
          have hrc := rel_cn (s := 1) (by omega) W c f
          obtain ⟨W', eW⟩ := rel1_top W c f (by omega)
          refine ⟨2, _, by omega, c_X1_takeClose (by omega) ht hm hK0 ho, ?_⟩
          rintro μ37 ⟨F37, m37⟩
          refine nx μ37 _ _ _ _ _ _ _ _ F37 m37 ⟨?_, k2, ?_, by omega, fun k hk => ?_⟩ hR
          · rw [eW] at hrc ⊢
            show _ + cnS W' = n
            rw [cnS, if_pos rfl] at hrc
            omega
          · rw [eW] at hrc ⊢
            show cnO W' = o - 1
            rw [cnO, if_pos rfl] at hrc
            omega
          · rw [eW] at hk
            have := rel_mem (s := 1) W c f k5 k (by rw [eW]; exact List.mem_cons_of_mem _ hk)
            exact this
        · rw [if_pos z31] at hR
          have ho : o < 8 := by
            by_cases z : 8 ≤ o
            · exact absurd (Or.inl ⟨z31, z⟩) ht2
            · omega
          refine ⟨1, _, by omega, c_X1_takeOpen (by omega) hm ho (by omega), ?_⟩
          rintro μ44 ⟨F44, m44⟩
          refine nx μ44 _ _ _ _ _ _ _ _ F44 m44 ⟨?_, k2, ?_, by omega, fun k hk => ?_⟩ hR
          · show f + (0 + cnS W) = n
            omega
          · show 1 + cnO W = o + 1
            omega
          · rcases List.mem_cons.mp hk with e | e
            · exact Or.inl e
            · exact k5 k e
    · rw [bI, if_neg hc]
      exact ⟨fun _ => readInto_3 (by omega) ht hr hq hF hm hK0 hp hat hc hR, fun z => absurd rfl z⟩
end SR
