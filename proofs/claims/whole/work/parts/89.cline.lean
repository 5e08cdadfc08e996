/-! LINES as pure functions; the class's lines -/
def upI (f : Nat → Int32) (m : Nat) (v : Int32) : Nat → Int32 := fun k => if k = m then v else f k
def upQ (f : Nat → Nat) (m v : Nat) : Nat → Nat := fun k => if k = m then v else f k
def bnd {α β : Type} (R : rsL α) (F : α → Nat → rsL β) : rsL β := match R with | .inl x => .inl x | .inr (a, q) => F a q
theorem bnd_l {α β : Type} {R : rsL α} {F : α → Nat → rsL β} {x : Int32 × Nat} (h : R = .inl x) : bnd R F = .inl x := by rw [h]; rfl
theorem bnd_r {α β : Type} {R : rsL α} {F : α → Nat → rsL β} {a : α} {q : Nat} (h : R = .inr (a, q)) : bnd R F = F a q := by rw [h]; rfl
noncomputable def lnM (lg : Nat → Int32) (tb : Nat → Nat) (L : Nat) (δ : dfT) (p : Nat) : rsL dfT := if 5 ≤ δ.1.1 then .inl (2, p) else bnd (nwR lg tb L δ.1.2.1 δ.1.1 (nxP lg tb L p)) fun w q => bnd (nuR lg tb L 0 99 q) fun g q => bnd (nuR lg tb L 0 99 q) fun b q => bnd (nuR lg tb L 0 99 q) fun u q => .inr (((δ.1.1 + 1, upI δ.1.2.1 δ.1.1 w, upI δ.1.2.2.1 δ.1.1 g, upI δ.1.2.2.2.1 δ.1.1 b, upI δ.1.2.2.2.2 δ.1.1 u), δ.2), q)
noncomputable def lnD (lg : Nat → Int32) (tb : Nat → Nat) (L : Nat) (δ : dfT) (p : Nat) : rsL dfT := if 6 ≤ δ.2.1.1 then .inl (2, p) else bnd (nwR lg tb L δ.2.1.2.1 δ.2.1.1 (nxP lg tb L p)) fun w q => bnd (nuR lg tb L 0 20 q) fun g q => bnd (nuR lg tb L 0 20 q) fun b q => bnd (nuR lg tb L 0 9 q) fun u q => .inr ((δ.1, (δ.2.1.1 + 1, upI δ.2.1.2.1 δ.2.1.1 w, upI δ.2.1.2.2.1 δ.2.1.1 g, upI δ.2.1.2.2.2.1 δ.2.1.1 b, upI δ.2.1.2.2.2.2 δ.2.1.1 u), δ.2.2), q)
noncomputable def lnP (lg : Nat → Int32) (tb : Nat → Nat) (L : Nat) (δ : dfT) (p : Nat) : rsL dfT := if 12 ≤ δ.2.2.1.1 then .inl (2, p) else bnd (tnR lg tb L δ.1.2.1 δ.1.1 (nxP lg tb L p)) fun m q => bnd (tnR lg tb L δ.2.1.2.1 δ.2.1.1 (nxP lg tb L q)) fun n q => if δ.2.2.1.2 (ix m * 6 + ix n) = 0 then bnd (nuR lg tb L 1 9 (nxP lg tb L q)) (fun v q => .inr ((δ.1, δ.2.1, (δ.2.2.1.1 + 1, upI δ.2.2.1.2 (ix m * 6 + ix n) v), δ.2.2.2), q)) else .inl (3, q)
noncomputable def ln2 (lg : Nat → Int32) (tb : Nat → Nat) (L w i : Nat) (a b c e : Int) (δ : dfT) (p : Nat) : rsL dfT := if δ.2.2.2.2.2 w = true then .inl (3, p) else bnd (nuR lg tb L a b (nxP lg tb L p)) fun x q => bnd (nuR lg tb L c e q) fun y q => .inr ((δ.1, δ.2.1, δ.2.2.1, upI (upI δ.2.2.2.1 i x) (i + 1) y, δ.2.2.2.2.1, upB δ.2.2.2.2.2 w true), q)
noncomputable def ln1 (lg : Nat → Int32) (tb : Nat → Nat) (L w i : Nat) (a b : Int) (δ : dfT) (p : Nat) : rsL dfT := if δ.2.2.2.2.2 w = true then .inl (3, p) else bnd (nuR lg tb L a b (nxP lg tb L p)) fun x q => .inr ((δ.1, δ.2.1, δ.2.2.1, upI δ.2.2.2.1 i x, δ.2.2.2.2.1, upB δ.2.2.2.2.2 w true), q)
noncomputable def lwR (lg : Nat → Int32) (tb : Nat → Nat) (L r : Nat) (δ : dfT) (q : Nat) : rsL dfT := match syR lg tb L 701 q [] (fun _ => false) 0 true true δ.2.2.2.2.1.1 δ.2.2.2.2.1.2.1 δ.2.2.2.2.1.2.1 with | some (.inr (q, c', f', _)) => .inr ((δ.1, δ.2.1, δ.2.2.1, δ.2.2.2.1, (c', f', upQ δ.2.2.2.2.1.2.2.1 r δ.2.2.2.2.1.2.1, upQ δ.2.2.2.2.1.2.2.2 r f'), δ.2.2.2.2.2), q) | some (.inl x) => .inl x | none => .inl (1, 0)
noncomputable def lnL (lg : Nat → Int32) (tb : Nat → Nat) (L : Nat) (δ : dfT) (p : Nat) : rsL dfT := if inR (tkK lg tb L (nxP lg tb L p)) 8 10 then (if δ.2.2.2.2.1.2.2.1 (ix (tkK lg tb L (nxP lg tb L p)) - 8) < δ.2.2.2.2.1.2.2.2 (ix (tkK lg tb L (nxP lg tb L p)) - 8) then .inl (3, nxP lg tb L p) else lwR lg tb L (ix (tkK lg tb L (nxP lg tb L p)) - 8) δ (nxP lg tb L (nxP lg tb L p))) else .inl (1, nxP lg tb L p)
/-- a line, but for its end -/
noncomputable def lnR (lg : Nat → Int32) (tb : Nat → Nat) (L : Nat) (δ : dfT) (p : Nat) : rsL dfT := if tkK lg tb L p = 0 then lnM lg tb L δ p else if tkK lg tb L p = 1 then lnD lg tb L δ p else if tkK lg tb L p = 2 then lnP lg tb L δ p else if tkK lg tb L p = 3 then ln2 lg tb L 3 3 0 999 1 14 δ p else if tkK lg tb L p = 4 then ln2 lg tb L 4 5 0 99 0 999 δ p else if tkK lg tb L p = 5 then ln1 lg tb L 5 7 0 100 δ p else if tkK lg tb L p = 6 then ln1 lg tb L 6 8 0 99999 δ p else if tkK lg tb L p = 7 then lnL lg tb L δ p else .inl (1, p)
theorem nwR_cong {lg : Nat → Int32} {tb : Nat → Nat} {L m p : Nat} {f g : Nat → Int32} (h : ∀ k, k < m → f k = g k) : nwR lg tb L f m p = nwR lg tb L g m p := by
  unfold nwR
  rw [fndL_cong m 0 (fun k _ hk => h k (by omega))]
theorem tnR_cong {lg : Nat → Int32} {tb : Nat → Nat} {L m p : Nat} {f g : Nat → Int32} (h : ∀ k, k < m → f k = g k) : tnR lg tb L f m p = tnR lg tb L g m p := by
  unfold tnR
  rw [fndL_cong m 0 (fun k _ hk => h k (by omega))]
/-- what a line of the class may change -/
def lnF (e : Nat) (μ μ' : gMem) : Prop := (∀ k j, ¬ (j = 0 ∧ (k = 1 ∨ k = 128 ∨ k = 130 ∨ k = 5 ∨ k = 6 ∨ k = 386)) → ¬ (j = e ∧ (k = 2 ∨ k = 7 ∨ (192 ≤ k ∧ k ≤ 195) ∨ (513 ≤ k ∧ k ≤ 523))) → μ'.1 k j = μ.1 k j) ∧ (∀ j, ¬ (4 ≤ j ∧ j ≤ 7) → μ'.1 6 0 j = μ.1 6 0 j) ∧ μ'.2 = μ.2
theorem lnF.rf {e : Nat} {μ : gMem} : lnF e μ μ := ⟨fun _ _ _ _ => rfl, fun _ _ => rfl, rfl⟩
theorem lnF.tr {e : Nat} {μ μ1 μ2 : gMem} (h : lnF e μ μ1) (h2 : lnF e μ1 μ2) : lnF e μ μ2 := ⟨fun k j a b => (h2.1 k j a b).trans (h.1 k j a b), fun j a => (h2.2.1 j a).trans (h.2.1 j a), h2.2.2.trans h.2.2⟩
theorem rnF.l {e : Nat} {μ μ' : gMem} (h : rnF μ μ') : lnF e μ μ' := ⟨fun k j a _ => h.1 k j (by omega), h.2.1, h.2.2⟩
theorem lnF.pe {e k j : Nat} {μ μ1 : gMem} {v : Int32} (h : lnF e μ μ1) (hk : k = 7 ∨ (513 ≤ k ∧ k ≤ 523)) : lnF e μ (gsI μ1 k e j v) := h.tr ⟨fun a b x y => gsI_off (by omega), fun a _ => by rw [gsI_off (by omega)], rfl⟩
theorem lnF.p386 {e j : Nat} {μ μ1 : gMem} {v : Int32} (h : lnF e μ μ1) : lnF e μ (gsI μ1 386 0 j v) := h.tr ⟨fun a b x y => gsI_off (by omega), fun a _ => by rw [gsI_off (by omega)], rfl⟩
theorem raF.l {e r : Nat} {μ μ' : gMem} (h : raF e r μ μ') : lnF e μ μ' := ⟨fun k j a b => h.1 k j (by omega) (by omega), h.2.2.1, h.2.2.2.2⟩
theorem tkC.l {lg : Nat → Int32} {tb : Nat → Nat} {L e : Nat} {μ μ' : gMem} (h : tkC lg tb L μ) (hF : lnF e μ μ') : tkC lg tb L μ' := by
  unfold tkC
  rw [hF.2.1 3 (by omega), hF.1 448 0 (by omega) (by omega), hF.1 449 0 (by omega) (by omega)]
  exact h
theorem dfC.of {e : Nat} {μ μ' : gMem} {δ : dfT} (h : dfC μ e δ) (hk : ∀ k, k = 2 ∨ k = 7 ∨ (192 ≤ k ∧ k ≤ 195) ∨ (513 ≤ k ∧ k ≤ 523) → μ'.1 k e = μ.1 k e) (h386 : μ'.1 386 0 = μ.1 386 0) : dfC μ' e δ := by
  obtain ⟨a, b, c, f, ⟨g1, g2, g3⟩, i⟩ := h
  refine ⟨?_, ?_, ?_, ?_, ⟨g1.of (fun k hk2 => hk k (by omega)), ?_, ?_⟩, ?_⟩
  · rw [hk 7 (by omega), hk 513 (by omega), hk 514 (by omega), hk 515 (by omega), hk 516 (by omega)]; exact a
  · rw [hk 7 (by omega), hk 518 (by omega), hk 519 (by omega), hk 520 (by omega), hk 521 (by omega)]; exact b
  · rw [hk 7 (by omega), hk 523 (by omega)]; exact c
  · rw [hk 7 (by omega)]; exact f
  · rw [hk 2 (by omega)]; exact g2
  · rw [hk 194 (by omega), hk 195 (by omega)]; exact g3
  · rw [h386]; exact i
theorem dfC.i5 {e k m : Nat} {μ : gMem} {δ : dfT} {v : Int32} (h : dfC μ e δ) (hk : 513 ≤ k ∧ k ≤ 516) (hm : δ.1.1 ≤ m) : dfC (gsI μ k e m v) e δ := by
  obtain ⟨a, b, c, f, ⟨g1, g2, g3⟩, i⟩ := h
  have o : ∀ k', ¬ k' = k → (gsI μ k e m v).1 k' = μ.1 k' := fun k' hk' => by funext j; rw [gsI_off (by omega)]
  refine ⟨⟨by rw [o 7 (by omega)]; exact a.1, fun z hz => ?_⟩, ?_, ?_, ?_, ⟨g1.of (fun k hk2 => by rw [o k (by omega)]), ?_, ?_⟩, ?_⟩
  · rw [gsI_at, if_neg (by omega), gsI_at, if_neg (by omega), gsI_at, if_neg (by omega), gsI_at, if_neg (by omega)]
    exact a.2 z hz
  · rw [o 7 (by omega), o 518 (by omega), o 519 (by omega), o 520 (by omega), o 521 (by omega)]; exact b
  · rw [o 7 (by omega), o 523 (by omega)]; exact c
  · rw [o 7 (by omega)]; exact f
  · rw [o 2 (by omega)]; exact g2
  · rw [o 194 (by omega), o 195 (by omega)]; exact g3
  · rw [o 386 (by omega)]; exact i
theorem dfC.i6 {e k m : Nat} {μ : gMem} {δ : dfT} {v : Int32} (h : dfC μ e δ) (hk : 518 ≤ k ∧ k ≤ 521) (hm : δ.2.1.1 ≤ m) : dfC (gsI μ k e m v) e δ := by
  obtain ⟨b, a, c, f, ⟨g1, g2, g3⟩, i⟩ := h
  have o : ∀ k', ¬ k' = k → (gsI μ k e m v).1 k' = μ.1 k' := fun k' hk' => by funext j; rw [gsI_off (by omega)]
  refine ⟨?_, ⟨by rw [o 7 (by omega)]; exact a.1, fun z hz => ?_⟩, ?_, ?_, ⟨g1.of (fun k hk2 => by rw [o k (by omega)]), ?_, ?_⟩, ?_⟩
  · rw [o 7 (by omega), o 513 (by omega), o 514 (by omega), o 515 (by omega), o 516 (by omega)]; exact b
  · rw [gsI_at, if_neg (by omega), gsI_at, if_neg (by omega), gsI_at, if_neg (by omega), gsI_at, if_neg (by omega)]
    exact a.2 z hz
  · rw [o 7 (by omega), o 523 (by omega)]; exact c
  · rw [o 7 (by omega)]; exact f
  · rw [o 2 (by omega)]; exact g2
  · rw [o 194 (by omega), o 195 (by omega)]; exact g3
  · rw [o 386 (by omega)]; exact i
theorem up_case {f : Nat → Int32} {g : Nat → Int32} {m : Nat} {v : Int32} (h : ∀ k, k < m → f k = g k) (hv : f m = v) : ∀ k, k < m + 1 → f k = upI g m v k := by
  intro k hk
  unfold upI
  by_cases e : k = m
  · rw [if_pos e, e]; exact hv
  · rw [if_neg e]; exact h k (by omega)
theorem dfC.man {e : Nat} {μ : gMem} {δ : dfT} {w g b u : Int32} (h : dfC μ e δ) (h1 : μ.1 513 e δ.1.1 = w) (h2 : μ.1 514 e δ.1.1 = g) (h3 : μ.1 515 e δ.1.1 = b) (h4 : μ.1 516 e δ.1.1 = u) : dfC (gsI μ 7 e 0 (nI (δ.1.1 + 1))) e ((δ.1.1 + 1, upI δ.1.2.1 δ.1.1 w, upI δ.1.2.2.1 δ.1.1 g, upI δ.1.2.2.2.1 δ.1.1 b, upI δ.1.2.2.2.2 δ.1.1 u), δ.2) := by
  obtain ⟨a, b, c, f, ⟨g1, g2, g3⟩, i⟩ := h
  have o : ∀ k', ¬ k' = 7 → (gsI μ 7 e 0 (nI (δ.1.1 + 1))).1 k' = μ.1 k' := fun k' hk' => by funext j; rw [gsI_off (by omega)]
  have o7 : ∀ j, ¬ j = 0 → (gsI μ 7 e 0 (nI (δ.1.1 + 1))).1 7 e j = μ.1 7 e j := fun j hj => by rw [gsI_at, if_neg (by omega)]
  refine ⟨⟨gsI_s, fun z hz => ?_⟩, ⟨by rw [o7 5 (by omega)]; exact b.1, fun z hz => ?_⟩, ⟨by rw [o7 10 (by omega)]; exact c.1, ?_⟩, fun j x y => ?_, ⟨g1.of (fun k hk2 => by rw [o k (by omega)]), ?_, ?_⟩, ?_⟩
  · rw [o 513 (by omega), o 514 (by omega), o 515 (by omega), o 516 (by omega)]
    exact ⟨up_case (fun k hk => (a.2 k hk).1) h1 z hz, up_case (fun k hk => (a.2 k hk).2.1) h2 z hz, up_case (fun k hk => (a.2 k hk).2.2.1) h3 z hz, up_case (fun k hk => (a.2 k hk).2.2.2) h4 z hz⟩
  · rw [o 518 (by omega), o 519 (by omega), o 520 (by omega), o 521 (by omega)]; exact b.2 z hz
  · rw [o 523 (by omega)]; exact c.2
  · rw [o7 (9 + j) (by omega)]; exact f j x y
  · rw [o 2 (by omega)]; exact g2
  · rw [o 194 (by omega), o 195 (by omega)]; exact g3
  · rw [o 386 (by omega)]; exact i
theorem dfC.deed {e : Nat} {μ : gMem} {δ : dfT} {w g b u : Int32} (h : dfC μ e δ) (h1 : μ.1 518 e δ.2.1.1 = w) (h2 : μ.1 519 e δ.2.1.1 = g) (h3 : μ.1 520 e δ.2.1.1 = b) (h4 : μ.1 521 e δ.2.1.1 = u) : dfC (gsI μ 7 e 5 (nI (δ.2.1.1 + 1))) e (δ.1, (δ.2.1.1 + 1, upI δ.2.1.2.1 δ.2.1.1 w, upI δ.2.1.2.2.1 δ.2.1.1 g, upI δ.2.1.2.2.2.1 δ.2.1.1 b, upI δ.2.1.2.2.2.2 δ.2.1.1 u), δ.2.2) := by
  obtain ⟨b, a, c, f, ⟨g1, g2, g3⟩, i⟩ := h
  have o : ∀ k', ¬ k' = 7 → (gsI μ 7 e 5 (nI (δ.2.1.1 + 1))).1 k' = μ.1 k' := fun k' hk' => by funext j; rw [gsI_off (by omega)]
  have o7 : ∀ j, ¬ j = 5 → (gsI μ 7 e 5 (nI (δ.2.1.1 + 1))).1 7 e j = μ.1 7 e j := fun j hj => by rw [gsI_at, if_neg (by omega)]
  refine ⟨⟨by rw [o7 0 (by omega)]; exact b.1, fun z hz => ?_⟩, ⟨gsI_s, fun z hz => ?_⟩, ⟨by rw [o7 10 (by omega)]; exact c.1, ?_⟩, fun j x y => ?_, ⟨g1.of (fun k hk2 => by rw [o k (by omega)]), ?_, ?_⟩, ?_⟩
  · rw [o 513 (by omega), o 514 (by omega), o 515 (by omega), o 516 (by omega)]; exact b.2 z hz
  · rw [o 518 (by omega), o 519 (by omega), o 520 (by omega), o 521 (by omega)]
    exact ⟨up_case (fun k hk => (a.2 k hk).1) h1 z hz, up_case (fun k hk => (a.2 k hk).2.1) h2 z hz, up_case (fun k hk => (a.2 k hk).2.2.1) h3 z hz, up_case (fun k hk => (a.2 k hk).2.2.2) h4 z hz⟩
  · rw [o 523 (by omega)]; exact c.2
  · rw [o7 (9 + j) (by omega)]; exact f j x y
  · rw [o 2 (by omega)]; exact g2
  · rw [o 194 (by omega), o 195 (by omega)]; exact g3
  · rw [o 386 (by omega)]; exact i
theorem dfC.num {e i n : Nat} {μ : gMem} {δ : dfT} {x : Int32} (h : dfC μ e δ) (hi : 3 ≤ i ∧ i ≤ 8) (hn : n = 9 + i) : dfC (gsI μ 7 e n x) e (δ.1, δ.2.1, δ.2.2.1, upI δ.2.2.2.1 i x, δ.2.2.2.2) := by
  subst hn
  obtain ⟨a, b, c, f, ⟨g1, g2, g3⟩, i9⟩ := h
  have o : ∀ k', ¬ k' = 7 → (gsI μ 7 e (9 + i) x).1 k' = μ.1 k' := fun k' hk' => by funext j; rw [gsI_off (by omega)]
  have o7 : ∀ j, ¬ j = 9 + i → (gsI μ 7 e (9 + i) x).1 7 e j = μ.1 7 e j := fun j hj => by rw [gsI_at, if_neg (by omega)]
  refine ⟨⟨by rw [o7 0 (by omega)]; exact a.1, fun z hz => ?_⟩, ⟨by rw [o7 5 (by omega)]; exact b.1, fun z hz => ?_⟩, ⟨by rw [o7 10 (by omega)]; exact c.1, ?_⟩, fun j y z => ?_, ⟨g1.of (fun k hk2 => by rw [o k (by omega)]), ?_, ?_⟩, ?_⟩
  · rw [o 513 (by omega), o 514 (by omega), o 515 (by omega), o 516 (by omega)]; exact a.2 z hz
  · rw [o 518 (by omega), o 519 (by omega), o 520 (by omega), o 521 (by omega)]; exact b.2 z hz
  · rw [o 523 (by omega)]; exact c.2
  · show (gsI μ 7 e (9 + i) x).1 7 e (9 + j) = if j = i then x else δ.2.2.2.1 j
    by_cases ej : j = i
    · rw [if_pos ej, ej, gsI_s]
    · rw [if_neg ej, o7 (9 + j) (by omega)]; exact f j y z
  · rw [o 2 (by omega)]; exact g2
  · rw [o 194 (by omega), o 195 (by omega)]; exact g3
  · rw [o 386 (by omega)]; exact i9
theorem dfC.sd {e j : Nat} {μ : gMem} {δ : dfT} (h : dfC μ e δ) : dfC (gsI μ 386 0 j 1) e (δ.1, δ.2.1, δ.2.2.1, δ.2.2.2.1, δ.2.2.2.2.1, upB δ.2.2.2.2.2 (3 + j) true) := by
  obtain ⟨a, b, c, f, ⟨g1, g2, g3⟩, i9⟩ := h
  have o : ∀ k', ¬ k' = 386 → (gsI μ 386 0 j 1).1 k' = μ.1 k' := fun k' hk' => by funext j; rw [gsI_off (by omega)]
  refine ⟨?_, ?_, ?_, ?_, ⟨g1.of (fun k hk2 => by rw [o k (by omega)]), ?_, ?_⟩, fun z hz => ?_⟩
  · rw [o 7 (by omega), o 513 (by omega), o 514 (by omega), o 515 (by omega), o 516 (by omega)]; exact a
  · rw [o 7 (by omega), o 518 (by omega), o 519 (by omega), o 520 (by omega), o 521 (by omega)]; exact b
  · rw [o 7 (by omega), o 523 (by omega)]; exact c
  · rw [o 7 (by omega)]; exact f
  · rw [o 2 (by omega)]; exact g2
  · rw [o 194 (by omega), o 195 (by omega)]; exact g3
  · show (gsI μ 386 0 j 1).1 386 0 z = bB (if 3 + z = 3 + j then true else δ.2.2.2.2.2 (3 + z))
    by_cases ez : z = j
    · rw [if_pos (by omega), ez, gsI_s]; rfl
    · rw [if_neg (by omega), gsI_at, if_neg (by omega)]; exact i9 z hz
def nfC (μ : gMem) : Prop := μ.1 5 0 5 = 0 ∧ μ.1 5 0 6 = -1
theorem nfC.of {μ μ' : gMem} (h : nfC μ) (h5 : ∀ j, ¬ j = 4 → μ'.1 5 0 j = μ.1 5 0 j) : nfC μ' := ⟨(h5 5 (by omega)).trans h.1, (h5 6 (by omega)).trans h.2⟩
/-- the class stands at p, its draft is δ, no fault -/
def rdC (lg : Nat → Int32) (tb : Nat → Nat) (L e : Nat) (μ : gMem) (p : Nat) (δ : dfT) : Prop := μ.2.2 2 = e ∧ tkC lg tb L μ ∧ p ≤ L ∧ atC lg tb L p μ ∧ dfC μ e δ ∧ nfC μ
/-- what a line of the class leaves -/
def lnQ (lg : Nat → Int32) (tb : Nat → Nat) (L e : Nat) (μ : gMem) (R : rsL dfT) : Int32 → gMem → Prop := fun v μ' => lnF e μ μ' ∧ rsC lg tb L R (fun δ' μ' => dfC μ' e δ' ∧ nfC μ') v μ'
