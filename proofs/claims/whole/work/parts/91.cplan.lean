/-! the class's lines: plan, law; any line -/
theorem tnR_inr {lg : Nat → Int32} {tb : Nat → Nat} {L m p q : Nat} {f : Nat → Int32} {a : Int32} (h : tnR lg tb L f m p = .inr (a, q)) : q = p ∧ ∃ j, j < m ∧ a = nI j := by
  unfold tnR at h
  by_cases h1 : tkK lg tb L p = 35
  · rw [if_pos h1] at h
    by_cases h2 : fndL f (tkV lg tb L p) m 0 = -1
    · rw [if_pos h2] at h; cases h
    · rw [if_neg h2] at h
      rcases fndL_rng (f := f) (x := tkV lg tb L p) m 0 with w | ⟨j, -, hj, e, -⟩
      · exact absurd w h2
      · cases h
        exact ⟨rfl, j, by omega, e⟩
  · rw [if_neg h1] at h; cases h
theorem nuR_inr {lg : Nat → Int32} {tb : Nat → Nat} {L p q : Nat} {lo hi : Int} {a : Int32} (h : nuR lg tb L lo hi p = .inr (a, q)) : q = nxP lg tb L p ∧ inR a lo hi := by
  unfold nuR at h
  by_cases h1 : tkK lg tb L p = 34
  · rw [if_pos h1] at h
    by_cases h2 : inR (tkV lg tb L p) lo hi
    · rw [if_pos h2] at h
      cases h
      exact ⟨rfl, h2⟩
    · rw [if_neg h2] at h; cases h
  · rw [if_neg h1] at h; cases h
theorem nwR_inr {lg : Nat → Int32} {tb : Nat → Nat} {L m p q : Nat} {f : Nat → Int32} {a : Int32} (h : nwR lg tb L f m p = .inr (a, q)) : q = nxP lg tb L p := by
  unfold nwR at h
  by_cases h1 : tkK lg tb L p = 35
  · rw [if_pos h1] at h
    by_cases h2 : fndL f (tkV lg tb L p) m 0 = -1
    · rw [if_pos h2] at h; cases h; rfl
    · rw [if_neg h2] at h; cases h
  · rw [if_neg h1] at h; cases h
theorem bnd_inr {α β : Type} {R : rsL α} {F : α → Nat → rsL β} {x : β × Nat} (h : bnd R F = .inr x) : ∃ a q, R = .inr (a, q) ∧ F a q = .inr x := by
  rcases R with y | ⟨a, q⟩
  · cases h
  · exact ⟨a, q, rfl, h⟩
/-- the draft's bounds -/
def dfB (δ : dfT) : Prop := δ.1.1 ≤ 5 ∧ δ.2.1.1 ≤ 6 ∧ δ.2.2.1.1 ≤ 12 ∧ δ.2.2.2.2.1.2.1 ≤ 64 ∧ ∀ r, r < 3 → δ.2.2.2.2.1.2.2.1 r ≤ δ.2.2.2.2.1.2.1 ∧ δ.2.2.2.2.1.2.2.2 r ≤ δ.2.2.2.2.1.2.1
/-- the draft's ranges -/
def dfR (δ : dfT) : Prop := (∀ k, k < δ.1.1 → inR (δ.1.2.2.1 k) 0 99 ∧ inR (δ.1.2.2.2.1 k) 0 99) ∧ (∀ k, k < δ.2.1.1 → inR (δ.2.1.2.2.1 k) 0 20 ∧ inR (δ.2.1.2.2.2.1 k) 0 20 ∧ inR (δ.2.1.2.2.2.2 k) 0 9) ∧ (∀ z, z < 30 → inR (δ.2.2.1.2 z) 0 9) ∧ inR (δ.2.2.2.1 4) 1 14 ∧ inR (δ.2.2.2.1 7) 0 100 ∧ inR (δ.2.2.2.1 8) 0 99999
section PL
variable {lg : Nat → Int32} {tb : Nat → Nat} {L p q : Nat} {δ δ' : dfT}
theorem nxP_ge (p : Nat) : p ≤ nxP lg tb L p := by
  by_cases h : p < L
  · exact Nat.le_of_lt (nxP_gt h)
  · have e : (tkF lg tb L p).1 = p := by unfold tkF; rw [if_pos h]
    unfold nxP
    rw [e]
    exact runE_ge _
theorem up_in {f : Nat → Int32} {m : Nat} {v : Int32} {a b : Int} (h : ∀ k, k < m → inR (f k) a b) (hv : inR v a b) : ∀ k, k < m + 1 → inR (upI f m v k) a b := by
  intro k hk
  unfold upI
  by_cases e : k = m
  · rw [if_pos e]; exact hv
  · rw [if_neg e]; exact h k (by omega)
theorem lnM_ok (h : lnM lg tb L δ p = .inr (δ', q)) (hp : p < L) (hR : dfR δ) (hB : dfB δ) : dfR δ' ∧ dfB δ' ∧ p < q ∧ δ'.2.2.2.2 = δ.2.2.2.2 := by
  unfold lnM at h
  by_cases h5 : 5 ≤ δ.1.1
  · rw [if_pos h5] at h; cases h
  · rw [if_neg h5] at h
    obtain ⟨w, q1, e1, h⟩ := bnd_inr h
    obtain ⟨g, q2, e2, h⟩ := bnd_inr h
    obtain ⟨b, q3, e3, h⟩ := bnd_inr h
    obtain ⟨u, q4, e4, h⟩ := bnd_inr h
    cases h
    have f1 := nwR_inr e1
    obtain ⟨f2, g2⟩ := nuR_inr e2
    obtain ⟨f3, g3⟩ := nuR_inr e3
    obtain ⟨f4, g4⟩ := nuR_inr e4
    have := nxP_gt (lg := lg) (tb := tb) hp
    have := nxP_ge (lg := lg) (tb := tb) (L := L) (nxP lg tb L p)
    have := nxP_ge (lg := lg) (tb := tb) (L := L) q1
    have := nxP_ge (lg := lg) (tb := tb) (L := L) q2
    have := nxP_ge (lg := lg) (tb := tb) (L := L) q3
    refine ⟨⟨fun k hk => ⟨up_in (fun k hk => (hR.1 k hk).1) g2 k hk, up_in (fun k hk => (hR.1 k hk).2) g3 k hk⟩, hR.2⟩, ⟨?_, hB.2⟩, by omega, rfl⟩
    show δ.1.1 + 1 ≤ 5
    omega
theorem lnD_ok (h : lnD lg tb L δ p = .inr (δ', q)) (hp : p < L) (hR : dfR δ) (hB : dfB δ) : dfR δ' ∧ dfB δ' ∧ p < q ∧ δ'.2.2.2.2 = δ.2.2.2.2 := by
  unfold lnD at h
  by_cases h5 : 6 ≤ δ.2.1.1
  · rw [if_pos h5] at h; cases h
  · rw [if_neg h5] at h
    obtain ⟨w, q1, e1, h⟩ := bnd_inr h
    obtain ⟨g, q2, e2, h⟩ := bnd_inr h
    obtain ⟨b, q3, e3, h⟩ := bnd_inr h
    obtain ⟨u, q4, e4, h⟩ := bnd_inr h
    cases h
    have f1 := nwR_inr e1
    obtain ⟨f2, g2⟩ := nuR_inr e2
    obtain ⟨f3, g3⟩ := nuR_inr e3
    obtain ⟨f4, g4⟩ := nuR_inr e4
    have := nxP_gt (lg := lg) (tb := tb) hp
    have := nxP_ge (lg := lg) (tb := tb) (L := L) (nxP lg tb L p)
    have := nxP_ge (lg := lg) (tb := tb) (L := L) q1
    have := nxP_ge (lg := lg) (tb := tb) (L := L) q2
    have := nxP_ge (lg := lg) (tb := tb) (L := L) q3
    refine ⟨⟨hR.1, fun k hk => ⟨up_in (fun k hk => (hR.2.1 k hk).1) g2 k hk, up_in (fun k hk => (hR.2.1 k hk).2.1) g3 k hk, up_in (fun k hk => (hR.2.1 k hk).2.2) g4 k hk⟩, hR.2.2⟩, ⟨hB.1, ?_, hB.2.2⟩, by omega, rfl⟩
    show δ.2.1.1 + 1 ≤ 6
    omega
theorem lnP_ok (h : lnP lg tb L δ p = .inr (δ', q)) (hp : p < L) (hR : dfR δ) (hB : dfB δ) : dfR δ' ∧ dfB δ' ∧ p < q ∧ δ'.2.2.2.2 = δ.2.2.2.2 := by
  unfold lnP at h
  by_cases h5 : 12 ≤ δ.2.2.1.1
  · rw [if_pos h5] at h; cases h
  · rw [if_neg h5] at h
    obtain ⟨m, q1, e1, h⟩ := bnd_inr h
    obtain ⟨n, q2, e2, h⟩ := bnd_inr h
    by_cases h0 : δ.2.2.1.2 (ix m * 6 + ix n) = 0
    · rw [if_pos h0] at h
      obtain ⟨v, q3, e3, h⟩ := bnd_inr h
      cases h
      have f1 := (tnR_inr e1).1
      have f2 := (tnR_inr e2).1
      obtain ⟨f3, g3⟩ := nuR_inr e3
      have := nxP_gt (lg := lg) (tb := tb) hp
      have := nxP_ge (lg := lg) (tb := tb) (L := L) q1
      have := nxP_ge (lg := lg) (tb := tb) (L := L) q2
      have := nxP_ge (lg := lg) (tb := tb) (L := L) (nxP lg tb L q2)
      refine ⟨⟨hR.1, hR.2.1, fun z hz => ?_, hR.2.2.2⟩, ⟨hB.1, hB.2.1, ?_, hB.2.2.2⟩, by omega, rfl⟩
      · show inR (if z = ix m * 6 + ix n then v else δ.2.2.1.2 z) 0 9
        by_cases ez : z = ix m * 6 + ix n
        · rw [if_pos ez]; have := g3.1; have := g3.2; exact ⟨by omega, by omega⟩
        · rw [if_neg ez]; exact hR.2.2.1 z hz
      · show δ.2.2.1.1 + 1 ≤ 12
        omega
    · rw [if_neg h0] at h; cases h
theorem up_ne {f : Nat → Int32} {m k : Nat} {v : Int32} (h : ¬ k = m) : upI f m v k = f k := if_neg h
theorem up_eq {f : Nat → Int32} {m : Nat} {v : Int32} : upI f m v m = v := if_pos rfl
theorem ln2_ok {w i : Nat} {a b c e : Int} (h : ln2 lg tb L w i a b c e δ p = .inr (δ', q)) (hw : (i = 3 ∧ c = 1 ∧ e = 14) ∨ i = 5) (hp : p < L) (hR : dfR δ) (hB : dfB δ) : dfR δ' ∧ dfB δ' ∧ p < q ∧ δ'.2.2.2.2.1 = δ.2.2.2.2.1 := by
  unfold ln2 at h
  by_cases h5 : δ.2.2.2.2.2 w = true
  · rw [if_pos h5] at h; cases h
  · rw [if_neg h5] at h
    obtain ⟨x, q1, e1, h⟩ := bnd_inr h
    obtain ⟨y, q2, e2, h⟩ := bnd_inr h
    cases h
    obtain ⟨f1, g1⟩ := nuR_inr e1
    obtain ⟨f2, g2⟩ := nuR_inr e2
    have := nxP_gt (lg := lg) (tb := tb) hp
    have := nxP_ge (lg := lg) (tb := tb) (L := L) (nxP lg tb L p)
    have := nxP_ge (lg := lg) (tb := tb) (L := L) q1
    refine ⟨⟨hR.1, hR.2.1, hR.2.2.1, ?_⟩, hB, by omega, rfl⟩
    show inR (upI (upI δ.2.2.2.1 i x) (i + 1) y 4) 1 14 ∧ inR (upI (upI δ.2.2.2.1 i x) (i + 1) y 7) 0 100 ∧ inR (upI (upI δ.2.2.2.1 i x) (i + 1) y 8) 0 99999
    rw [up_ne (k := 7) (by omega), up_ne (k := 7) (by omega), up_ne (k := 8) (by omega), up_ne (k := 8) (by omega)]
    refine ⟨?_, hR.2.2.2.2⟩
    rcases hw with ⟨rfl, rfl, rfl⟩ | rfl
    · rw [up_eq]; exact g2
    · rw [up_ne (by omega), up_ne (by omega)]; exact hR.2.2.2.1
theorem ln1_ok {w i : Nat} {a b : Int} (h : ln1 lg tb L w i a b δ p = .inr (δ', q)) (hw : (i = 7 ∧ a = 0 ∧ b = 100) ∨ (i = 8 ∧ a = 0 ∧ b = 99999)) (hp : p < L) (hR : dfR δ) (hB : dfB δ) : dfR δ' ∧ dfB δ' ∧ p < q ∧ δ'.2.2.2.2.1 = δ.2.2.2.2.1 := by
  unfold ln1 at h
  by_cases h5 : δ.2.2.2.2.2 w = true
  · rw [if_pos h5] at h; cases h
  · rw [if_neg h5] at h
    obtain ⟨x, q1, e1, h⟩ := bnd_inr h
    cases h
    obtain ⟨f1, g1⟩ := nuR_inr e1
    have := nxP_gt (lg := lg) (tb := tb) hp
    have := nxP_ge (lg := lg) (tb := tb) (L := L) (nxP lg tb L p)
    refine ⟨⟨hR.1, hR.2.1, hR.2.2.1, ?_⟩, hB, by omega, rfl⟩
    show inR (upI δ.2.2.2.1 i x 4) 1 14 ∧ inR (upI δ.2.2.2.1 i x 7) 0 100 ∧ inR (upI δ.2.2.2.1 i x 8) 0 99999
    rw [up_ne (k := 4) (by omega)]
    rcases hw with ⟨rfl, rfl, rfl⟩ | ⟨rfl, rfl, rfl⟩
    · rw [up_eq, up_ne (by omega)]; exact ⟨hR.2.2.2.1, g1, hR.2.2.2.2.2⟩
    · rw [up_eq, up_ne (by omega)]; exact ⟨hR.2.2.2.1, hR.2.2.2.2.1, g1⟩
end PL
theorem dfC.plan {e z : Nat} {μ : gMem} {δ : dfT} {v : Int32} (h : dfC μ e δ) : dfC (gsI (gsI μ 523 e z v) 7 e 10 (nI (δ.2.2.1.1 + 1))) e (δ.1, δ.2.1, (δ.2.2.1.1 + 1, upI δ.2.2.1.2 z v), δ.2.2.2) := by
  obtain ⟨a, b, c, f, ⟨g1, g2, g3⟩, i⟩ := h
  obtain ⟨ν, eν⟩ : ∃ ν, ν = gsI (gsI μ 523 e z v) 7 e 10 (nI (δ.2.2.1.1 + 1)) := ⟨_, rfl⟩
  rw [← eν]
  have o : ∀ k', ¬ k' = 7 → ¬ k' = 523 → ν.1 k' = μ.1 k' := fun k' hk' hk2 => by funext j; rw [eν, gsI_off (by omega), gsI_off (by omega)]
  have o7 : ∀ j, ¬ j = 10 → ν.1 7 e j = μ.1 7 e j := fun j hj => by rw [eν, gsI_at, if_neg (by omega), gsI_off (by omega)]
  refine ⟨⟨by rw [o7 0 (by omega)]; exact a.1, fun z hz => ?_⟩, ⟨by rw [o7 5 (by omega)]; exact b.1, fun z hz => ?_⟩, ⟨by rw [eν, gsI_s], fun y hy => ?_⟩, fun j x y => ?_, ⟨g1.of (fun k hk2 => by rw [o k (by omega) (by omega)]), ?_, ?_⟩, ?_⟩
  · rw [o 513 (by omega) (by omega), o 514 (by omega) (by omega), o 515 (by omega) (by omega), o 516 (by omega) (by omega)]; exact a.2 z hz
  · rw [o 518 (by omega) (by omega), o 519 (by omega) (by omega), o 520 (by omega) (by omega), o 521 (by omega) (by omega)]; exact b.2 z hz
  · rw [eν, gsI_off (by omega), gsI_at]
    show (if 523 = 523 ∧ e = e ∧ y = z then v else μ.1 523 e y) = if y = z then v else δ.2.2.1.2 y
    by_cases ey : y = z
    · rw [if_pos ⟨rfl, rfl, ey⟩, if_pos ey]
    · rw [if_neg (fun w => ey w.2.2), if_neg ey]; exact c.2 y hy
  · rw [o7 (9 + j) (by omega)]; exact f j x y
  · rw [o 2 (by omega) (by omega)]; exact g2
  · rw [o 194 (by omega) (by omega), o 195 (by omega) (by omega)]; exact g3
  · rw [o 386 (by omega) (by omega)]; exact i
theorem rsC.b {α : Type} {lg : Nat → Int32} {tb : Nat → Nat} {L : Nat} {R : rsL α} {M : α → gMem → Prop} {v : Int32} {μ' : gMem} (h : rsC lg tb L R M v μ') : v = 0 ∨ v = 1 := by
  rcases R with ⟨k, q⟩ | ⟨a, q⟩
  · exact Or.inl h.1
  · exact Or.inr h.1
theorem rel_ge {s : Nat} : ∀ (W : List Int32) (c : cdT) (f : Nat), f ≤ (rel s W c f).2.2 := by
  intro W
  induction W with
  | nil => intro c f; exact Nat.le_refl _
  | cons k W ih =>
    intro c f
    rw [rel]
    split
    · exact Nat.le_trans (Nat.le_succ f) (ih _ _)
    · exact Nat.le_refl _
theorem syR_ge {lg : Nat → Int32} {tb : Nat → Nat} {L q n' f' : Nat} {c' : cdT} : ∀ (m p : Nat) (W : List Int32) (cm : Nat → Bool) (o : Nat) (w nm : Bool) (c : cdT) (f n : Nat), syR lg tb L m p W cm o w nm c f n = some (.inr (q, c', f', n')) → f ≤ f' := by
  intro m
  induction m with
  | zero => intro p W cm o w nm c f n h; rw [syR] at h; cases h
  | succ m ih =>
    intro p W cm o w nm c f n h
    rw [syR] at h
    split at h
    · split at h
      · cases h
      · cases h; exact rel_ge _ _ _
    · split at h
      · cases h
      · split at h
        · exact Nat.le_trans (Nat.le_succ f) (ih _ _ _ _ _ _ _ _ _ h)
        · split at h
          · exact ih _ _ _ _ _ _ _ _ _ h
          · split at h
            · exact Nat.le_trans (rel_ge _ _ _) (ih _ _ _ _ _ _ _ _ _ h)
            · split at h
              · exact ih _ _ _ _ _ _ _ _ _ h
              · exact Nat.le_trans (rel_ge _ _ _) (ih _ _ _ _ _ _ _ _ _ h)
section CP
variable {l : Launch} {D : gD} {d : Nat} {μ μ0 μ1 : gMem} {lg : Nat → Int32} {tb : Nat → Nat} {L p e : Nat} {δ : dfT}
theorem c_X5_readPlan (hd : 5 ≤ d) (he : e < 2) (h : rdC lg tb L e μ p δ) (hB : dfB δ) : Ctr l D d yX5_readPlan cX5_readPlan 3 (some .boolean) [.ref (D.2.2 5 0)] μ (pI (lnQ lg tb L e μ (lnP lg tb L δ p))) := by
  have h2 := h.1
  obtain ⟨hB1, hB2, hB3, -⟩ := hB
  have h0 : μ.1 7 e 10 = nI δ.2.2.1.1 := h.2.2.2.2.1.2.2.1.1
  refine en_X5_readPlan (fun Γ => bl_X5_readPlan_0 (by decide) ⟨by omega, ?_⟩)
  rw [h2, h0]
  unfold lnP
  rw [show (12 : Int32) = nI 12 from rfl, nI_ltI (by omega) (by omega)]
  refine ⟨fun z => ⟨2, _, by omega, c_next (by omega) h.2.1 h.2.2.1 h.2.2.2.1, ?_⟩, fun z => ⟨0, _, by omega, c_X5_fail h.2.2.2.1, ?_⟩⟩
  · rw [if_neg (by omega)]
    rintro μ7 ⟨N, a7⟩
    have R7 : rdC lg tb L e μ7 (nxP lg tb L p) δ := h.nx N a7
    refine ⟨by have := R7.1; omega, by have := R7.1; omega, ?_⟩
    rw [R7.1]
    refine ⟨1, _, by omega, c_X5_findName (m := δ.1.1) (Ln := 5) (by omega) R7.2.2.2.2.1.1.1 (by decide) (gn_5 he).1 (by decide) (by decide) (by omega) R7.2.2.1 R7.2.2.2.1, ?_⟩
    rintro v17 μ16 ⟨F16, e16, q1⟩ x17 rfl
    rw [tnR_cong (g := δ.1.2.1) (fun k hk => (R7.2.2.2.2.1.1.2 k hk).1)] at q1
    obtain ⟨X, hX⟩ : ∃ X, tnR lg tb L δ.1.2.1 δ.1.1 (nxP lg tb L p) = X := ⟨_, rfl⟩
    rw [hX] at q1
    rcases X with ⟨k, q⟩ | ⟨m, q⟩
    · obtain ⟨a1, a2, a3⟩ := q1
      refine ⟨fun z => absurd a1 z, fun _ => ?_⟩
      rw [bnd_l hX]
      exact ⟨(N.n.tr F16).l, rfl, a2, a3⟩
    obtain ⟨a1, a2, a9⟩ := q1
    rw [bnd_r hX]
    obtain ⟨rfl, j1, hj1, em⟩ := tnR_inr hX
    subst a1
    refine ⟨fun _ => ?_, fun z => absurd z a2⟩
    have R16 : rdC lg tb L e μ16 (nxP lg tb L p) δ := R7.rn F16 R7.2.2.1 (by unfold atC; rw [e16]; exact R7.2.2.2.1) (fun j _ => by rw [a9])
    refine ⟨2, _, by omega, c_next (by omega) R16.2.1 R16.2.2.1 R16.2.2.2.1, ?_⟩
    rintro μ25 ⟨N25, a25⟩
    have R25 : rdC lg tb L e μ25 (nxP lg tb L (nxP lg tb L p)) δ := R16.nx N25 a25
    refine ⟨by have := R25.1; omega, by have := R25.1; omega, ?_⟩
    rw [R25.1]
    refine ⟨1, _, by omega, c_X5_findName (m := δ.2.1.1) (Ln := 6) (by omega) R25.2.2.2.2.1.2.1.1 (by decide) (gn_5 he).2 (by decide) (by decide) (by omega) R25.2.2.1 R25.2.2.2.1, ?_⟩
    rintro v35 μ34 ⟨F34, e34, q2⟩ x35 rfl
    rw [tnR_cong (g := δ.2.1.2.1) (fun k hk => (R25.2.2.2.2.1.2.1.2 k hk).1)] at q2
    have F34' : rnF μ μ34 := ((N.n.tr F16).tr N25.n).tr F34
    obtain ⟨Y, hY⟩ : ∃ Y, tnR lg tb L δ.2.1.2.1 δ.2.1.1 (nxP lg tb L (nxP lg tb L p)) = Y := ⟨_, rfl⟩
    rw [hY] at q2
    rcases Y with ⟨k, q⟩ | ⟨n, q⟩
    · obtain ⟨b1, b2, b3⟩ := q2
      refine ⟨fun z => absurd b1 z, fun _ => ?_⟩
      rw [bnd_l hY]
      exact ⟨F34'.l, rfl, b2, b3⟩
    obtain ⟨b1, b2, b9⟩ := q2
    rw [bnd_r hY]
    obtain ⟨rfl, j2, hj2, en⟩ := tnR_inr hY
    subst b1
    refine ⟨fun _ => ?_, fun z => absurd z b2⟩
    have R34 : rdC lg tb L e μ34 (nxP lg tb L (nxP lg tb L p)) δ := R25.rn F34 R25.2.2.1 (by unfold atC; rw [e34]; exact R25.2.2.2.1) (fun j _ => by rw [b9])
    have ei : x17 * (6 : Int32) + x35 = nI (j1 * 6 + j2) := by rw [em, en, show (6 : Int32) = nI 6 from rfl, pk_mul, nI_add]
    have ej : ix x17 * 6 + ix x35 = j1 * 6 + j2 := by rw [ix_eq em (by omega), ix_eq en (by omega)]
    rw [ei, ej]
    refine ⟨by have := R34.1; omega, j1 * 6 + j2, by omega, rfl, ?_⟩
    rw [R34.1, R34.2.2.2.2.1.2.2.1.2 (j1 * 6 + j2) (by omega)]
    refine ⟨fun z0 => ⟨2, _, by omega, c_next (by omega) R34.2.1 R34.2.2.1 R34.2.2.2.1, ?_⟩, fun z0 => ⟨0, _, by omega, c_X5_fail R34.2.2.2.1, ?_⟩⟩
    · rw [if_pos z0]
      rintro μ46 ⟨N46, a46⟩
      have R46 : rdC lg tb L e μ46 (nxP lg tb L (nxP lg tb L (nxP lg tb L p))) δ := R34.nx N46 a46
      refine num_step (by omega) (by decide) (by decide) R46 ((F34'.tr N46.n).l) ?_
      rintro x q2 μ53 hX2 R53 F53 e53
      refine ⟨by have := R53.1; omega, j1 * 6 + j2, by omega, rfl, ?_⟩
      rw [R53.1, e53, bnd_r hX2]
      rintro μ59 e59
      have r59 : μ59.2.2 2 = e := by rw [e59]; exact R53.1
      refine ⟨by omega, ?_⟩
      have s59 : μ59.1 7 e 10 = nI δ.2.2.1.1 := by rw [e59, gsI_off (by omega)]; exact R53.2.2.2.2.1.2.2.1.1
      rw [r59, s59, nI_1]
      rintro μ61 e61
      have F61 : lnF e μ53 μ61 := by rw [e61, e59]; exact (lnF.rf.pe (by omega)).pe (by omega)
      refine ⟨((F34'.tr N46.n).tr F53).l.tr F61, rfl, R53.2.2.1, ?_, ?_, R53.2.2.2.2.2.of (fun j _ => by rw [e61, gsI_off (by omega), e59, gsI_off (by omega)])⟩
      · unfold atC; rw [e61, gsI_off (by omega), e59, gsI_off (by omega)]; exact R53.2.2.2.1
      · show dfC μ61 e _
        rw [e61, e59]
        exact R53.2.2.2.2.1.plan
    · rw [if_neg z0]
      rintro v μ1 ⟨ev, F, a, b⟩
      rw [ev]
      exact ⟨Or.inl rfl, (F34'.tr F).l, rfl, a, b⟩
  · rw [if_pos (by omega)]
    rintro v μ1 ⟨ev, F, a, b⟩
    rw [ev]
    exact ⟨Or.inl rfl, F.l, rfl, a, b⟩
theorem c_X5_readLaw (hd : 7 ≤ d) (he : e < 2) (h : rdC lg tb L e μ p δ) (hB : dfB δ) : Ctr l D d yX5_readLaw cX5_readLaw 3 (some .boolean) [.ref (D.2.2 5 0)] μ (pI (fun v μ' => lnQ lg tb L e μ (lnL lg tb L δ p) v μ' ∧ ∀ δ' q, lnL lg tb L δ p = .inr (δ', q) → dfB δ')) := by
  have h2 := h.1
  obtain ⟨hB1, hB2, hB3, hB4, hB5⟩ := hB
  refine en_X5_readLaw (fun Γ => bl_X5_readLaw_0 (by decide) ⟨2, _, by omega, c_next (by omega) h.2.1 h.2.2.1 h.2.2.2.1, ?_⟩)
  rintro μ5 ⟨N, a5⟩
  have R5 : rdC lg tb L e μ5 (nxP lg tb L p) δ := h.nx N a5
  have k5 : μ5.1 6 0 5 = tkK lg tb L (nxP lg tb L p) := a5.2.1
  refine ⟨by omega, ?_⟩
  rw [k5, iw_lit (za := 8) (zb := 10) (by decide) (by decide)]
  unfold lnL
  refine ⟨fun z => ?_, fun z => ⟨0, _, by omega, c_X5_fail R5.2.2.2.1, ?_⟩⟩
  · have zi := Decidable.not_not.mp z
    rw [if_pos zi]
    obtain ⟨r, hr, er, ei⟩ : ∃ r, r < 3 ∧ tkK lg tb L (nxP lg tb L p) - (8 : Int32) = nI r ∧ ix (tkK lg tb L (nxP lg tb L p)) - 8 = r := by
      have h1 := zi.1
      have h2 := zi.2
      have e8 := ix_nI (x := tkK lg tb L (nxP lg tb L p)) (by omega)
      have hx : 8 ≤ ix (tkK lg tb L (nxP lg tb L p)) ∧ ix (tkK lg tb L (nxP lg tb L p)) ≤ 10 := by unfold ix; omega
      refine ⟨ix (tkK lg tb L (nxP lg tb L p)) - 8, by omega, ?_, rfl⟩
      rw [show (tkK lg tb L (nxP lg tb L p) - (8 : Int32)) = nI (ix (tkK lg tb L (nxP lg tb L p))) - nI 8 by rw [← e8]; rfl, pk_sub hx.1]
    rw [ei, er]
    rintro _ rfl
    have hf := hB5 r hr
    have hg := R5.2.2.2.2.1.2.2.2.2.1.2.2 r hr
    refine ⟨by have := R5.1; omega, ?_⟩
    rw [R5.1]
    refine ⟨0, fun v μ' => v = bI (δ.2.2.2.2.1.2.2.1 r < δ.2.2.2.2.1.2.2.2 r) ∧ μ' = μ5, by omega, en_X2_isTold (fun Γ => bl_X2_isTold_0 he ⟨r, hr, rfl, r, hr, rfl, ?_⟩), ?_⟩
    · rw [hg.1, hg.2, nI_leI (by omega) (by omega)]
      exact ⟨fun w => ⟨by rw [bI, if_neg (by omega)], rfl⟩, fun w => ⟨by rw [bI, if_pos (by omega)], rfl⟩⟩
    rintro v20 μ19 ⟨e20, rfl⟩
    by_cases hT : δ.2.2.2.2.1.2.2.1 r < δ.2.2.2.2.1.2.2.2 r
    · rw [if_pos hT, e20, bI, if_pos hT]
      refine ⟨fun w => absurd w (by decide), fun _ => ⟨0, _, by omega, c_X5_fail R5.2.2.2.1, ?_⟩⟩
      rintro v μ1 ⟨ev, F, a, b⟩
      rw [ev]
      exact ⟨Or.inl rfl, ⟨(N.n.tr F).l, rfl, a, b⟩, fun δ' q w => by cases w⟩
    rw [if_neg hT, e20, bI, if_neg hT]
    refine ⟨fun _ => ⟨2, _, by omega, c_next (by omega) R5.2.1 R5.2.2.1 R5.2.2.2.1, ?_⟩, fun w => absurd rfl w⟩
    rintro μ27 ⟨N27, a27⟩
    have R27 : rdC lg tb L e μ27 (nxP lg tb L (nxP lg tb L p)) δ := R5.nx N27 a27
    obtain ⟨c1, c2, c3, c4, ⟨c5, c6, c7⟩, c8⟩ := R27.2.2.2.2.1
    refine ⟨by have := R27.1; omega, ?_⟩
    rw [R27.1]
    refine ⟨5, _, by omega, c_X1_readInto (r := r) rfl (by omega) he hr R27.2.1 R27.2.2.1 R27.2.2.2.1 c5 c6 hB4, ?_⟩
    rintro v36 μ35 ⟨F35, s194, q, hq, a35, hR⟩ x36 rfl
    have FF : lnF e μ μ35 := (N.n.tr N27.n).l.tr F35.l
    rcases hR with ⟨hv, hR⟩ | ⟨hv, c', f', hR, hf', hl', h7', s195⟩
    · have eR : lwR lg tb L r δ (nxP lg tb L (nxP lg tb L p)) = .inl (x36, q) := by unfold lwR; rw [hR]
      rw [eR]
      refine ⟨fun z => absurd z hv, fun _ => ⟨0, _, by omega, c_X5_fail a35, ?_⟩⟩
      rintro v μ1 ⟨ev, F, a, b⟩
      refine ⟨fun _ => ⟨⟨FF.tr F.l, rfl, a, b⟩, fun δ' q w => by cases w⟩, fun z => absurd ev z⟩
    · have eR : lwR lg tb L r δ (nxP lg tb L (nxP lg tb L p)) = .inr ((δ.1, δ.2.1, δ.2.2.1, δ.2.2.2.1, (c', f', upQ δ.2.2.2.2.1.2.2.1 r δ.2.2.2.2.1.2.1, upQ δ.2.2.2.2.1.2.2.2 r f'), δ.2.2.2.2.2), q) := by unfold lwR; rw [hR]
      rw [eR]
      refine ⟨fun _ => bl_X5_readLaw_1 ⟨⟨FF, rfl, hq, a35, ?_, R27.2.2.2.2.2.of (fun j _ => by rw [F35.1 5 0 (by omega) (by omega)])⟩, ?_⟩, fun z => absurd hv z⟩
      · have o : ∀ k, ¬ k = 2 → ¬ (192 ≤ k ∧ k ≤ 195) → 6 < k → ¬ k = 128 → ¬ k = 130 → μ35.1 k = μ27.1 k := fun k x1 x2 x3 x4 x5 => by funext j; rw [F35.1 k j (by omega) (by omega)]
        refine ⟨?_, ?_, ?_, ?_, ⟨hl', h7', fun z hz => ?_⟩, ?_⟩
        · rw [o 7 (by omega) (by omega) (by omega) (by omega) (by omega), o 513 (by omega) (by omega) (by omega) (by omega) (by omega), o 514 (by omega) (by omega) (by omega) (by omega) (by omega), o 515 (by omega) (by omega) (by omega) (by omega) (by omega), o 516 (by omega) (by omega) (by omega) (by omega) (by omega)]; exact c1
        · rw [o 7 (by omega) (by omega) (by omega) (by omega) (by omega), o 518 (by omega) (by omega) (by omega) (by omega) (by omega), o 519 (by omega) (by omega) (by omega) (by omega) (by omega), o 520 (by omega) (by omega) (by omega) (by omega) (by omega), o 521 (by omega) (by omega) (by omega) (by omega) (by omega)]; exact c2
        · rw [o 7 (by omega) (by omega) (by omega) (by omega) (by omega), o 523 (by omega) (by omega) (by omega) (by omega) (by omega)]; exact c3
        · rw [o 7 (by omega) (by omega) (by omega) (by omega) (by omega)]; exact c4
        · show μ35.1 194 e z = nI (if z = r then δ.2.2.2.2.1.2.1 else δ.2.2.2.2.1.2.2.1 z) ∧ μ35.1 195 e z = nI (if z = r then f' else δ.2.2.2.2.1.2.2.2 z)
          by_cases ez : z = r
          · rw [if_pos ez, if_pos ez, ez]; exact ⟨s194, s195⟩
          · rw [if_neg ez, if_neg ez, (F35.2.2.2.1 z ez).1, (F35.2.2.2.1 z ez).2]; exact c7 z hz
        · rw [o 386 (by omega) (by omega) (by omega) (by omega) (by omega)]; exact c8
      · intro δ' q' w
        cases w
        refine ⟨hB1, hB2, hB3, hf', fun z hz => ?_⟩
        show (if z = r then δ.2.2.2.2.1.2.1 else δ.2.2.2.2.1.2.2.1 z) ≤ f' ∧ (if z = r then f' else δ.2.2.2.2.1.2.2.2 z) ≤ f'
        have := hB5 z hz
        have := syR_ge _ _ _ _ _ _ _ _ _ _ hR
        by_cases ez : z = r
        · rw [if_pos ez, if_pos ez]; omega
        · rw [if_neg ez, if_neg ez]; omega
  · rw [if_neg z]
    rintro v μ1 ⟨ev, F, a, b⟩
    rw [ev]
    exact ⟨Or.inl rfl, ⟨(N.n.tr F).l, rfl, a, b⟩, fun δ' q w => by cases w⟩
end CP
