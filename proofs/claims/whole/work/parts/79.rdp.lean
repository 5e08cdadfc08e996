/-! signs that wait, and what the reference has put already -/
def em : List Int32 → cdT → Nat → cdT × Nat
  | [], c, f => (c, f)
  | k :: P, c, f => em P (upC c f (ck k 0)) (f + 1)
theorem em_app : ∀ (P Q : List Int32) (c : cdT) (f : Nat), em (P ++ Q) c f = em Q (em P c f).1 (em P c f).2 := by
  intro P
  induction P with
  | nil => intro Q c f; rfl
  | cons k P ih => intro Q c f; exact ih Q _ _
theorem em_len : ∀ (P : List Int32) (c : cdT) (f : Nat), (em P c f).2 = f + P.length := by
  intro P
  induction P with
  | nil => intro c f; rfl
  | cons k P ih =>
    intro c f
    rw [em, ih]
    show f + 1 + P.length = f + (P.length + 1)
    omega
theorem em_old : ∀ (P : List Int32) (c : cdT) (f i : Nat), i < f → (em P c f).1 i = c i := by
  intro P
  induction P with
  | nil => intro c f i _; rfl
  | cons k P ih =>
    intro c f i h
    rw [em, ih _ _ i (by omega), upC, if_neg (by omega)]
def topLt (s : Nat) (W : List Int32) : Prop := ∀ k W', W = k :: W' → str k < s
theorem rel_em {s : Nat} {W : List Int32} (hW : topLt s W) : ∀ (P : List Int32) (c : cdT) (f : Nat), (∀ k, k ∈ P → s ≤ str k) → rel s (P ++ W) c f = (W, em P c f) := by
  intro P
  induction P with
  | nil =>
    intro c f _
    show rel s W c f = (W, c, f)
    cases W with
    | nil => rfl
    | cons k W' => rw [rel, if_neg (by have := hW k W' rfl; omega)]
  | cons k P ih =>
    intro c f h
    show rel s (k :: (P ++ W)) c f = _
    rw [rel, if_pos (h k List.mem_cons_self)]
    exact ih _ _ (fun x hx => h x (List.mem_cons_of_mem _ hx))
abbrev opP (b : Bool) (k : Int32) : Prop := k = 11 ∨ k = 12 ∨ inR k 27 30 ∨ (inR k 21 26 ∧ b = false)
theorem in_ne {k : Int32} {a b : Int} {x : Int32} (h : inR k a b) (hx : x.toInt < a ∨ b < x.toInt) : ¬ k = x := by
  rintro rfl
  have h1 := h.1
  have h2 := h.2
  omega
theorem op_ne {b : Bool} {k : Int32} (h : opP b k) : ¬ isV k ∧ ¬ k = 31 ∧ ¬ k = 32 ∧ ¬ k = 13 ∧ ¬ k = 34 := by
  have e31 : (31 : Int32).toInt = 31 := by decide
  have e32 : (32 : Int32).toInt = 32 := by decide
  have e13 : (13 : Int32).toInt = 13 := by decide
  have e34 : (34 : Int32).toInt = 34 := by decide
  rcases h with rfl | rfl | h | ⟨h, -⟩
  · decide
  · decide
  · have h1 := h.1
    have h2 := h.2
    refine ⟨?_, in_ne h (by omega), in_ne h (by omega), in_ne h (by omega), in_ne h (by omega)⟩
    rintro (w | w)
    · exact in_ne h (by omega) w
    · have := w.2; omega
  · have h1 := h.1
    have h2 := h.2
    refine ⟨?_, in_ne h (by omega), in_ne h (by omega), in_ne h (by omega), in_ne h (by omega)⟩
    rintro (w | w)
    · exact in_ne h (by omega) w
    · have := w.2; omega
section RP2
variable {lg : Nat → Int32} {tb : Nat → Nat} {L : Nat} {p o n m : Nat} {c : cdT} {f : Nat} {W P : List Int32} {cm : Nat → Bool} {nm : Bool} {k : Int32}
theorem sy_full (hk : tkK lg tb L p = k) (hop : opP (cm o) k) (hn : n = 64) : syR lg tb L (m + 1) p (P ++ W) cm o false nm c f n = some (.inl (2, p)) := by
  obtain ⟨a1, a2, a3, a4, a5⟩ := op_ne hop
  rw [syR, hk, if_neg (fun z => z (Or.inr ⟨rfl, Or.inr ⟨a3, hop⟩⟩)), if_pos (Or.inr ⟨a2, a3, Or.inl (by omega)⟩)]
theorem sy_op (hk : tkK lg tb L p = k) (hop : opP (cm o) k) (hP : ∀ x, x ∈ P → str k ≤ str x) (hW : topLt (str k) W) (hn : n < 64) : syR lg tb L (m + 1) p (P ++ W) cm o false nm c f n = syR lg tb L m (nxP lg tb L p) (k :: W) (cmN cm o k) o true (decide (str k ≤ 3)) (em P c f).1 (em P c f).2 (n + 1) := by
  obtain ⟨a1, a2, a3, a4, a5⟩ := op_ne hop
  rw [syR, hk, if_neg (fun z => z (Or.inr ⟨rfl, Or.inr ⟨a3, hop⟩⟩)), if_neg (fun z => by
    rcases z with z | ⟨-, -, z | z⟩
    · exact a2 z.1
    · omega
    · exact a5 z.1), if_neg a1, if_neg a2, if_neg a3, if_neg a4, rel_em hW P c f hP]
theorem dpn_app {c : cdT} : ∀ (a b i k : Nat), dpn c (a + b) i k = (match dpn c a i k with | some k' => dpn c b (i + a) k' | none => none) := by
  intro a
  induction a with
  | zero => intro b i k; rw [Nat.zero_add]; rfl
  | succ a ih =>
    intro b i k
    rw [show a + 1 + b = (a + b) + 1 by omega, dpn, dpn]
    cases dps (c i) k with
    | none => rfl
    | some k' =>
      show dpn c (a + b) (i + 1) k' = _
      rw [ih b (i + 1) k', show i + 1 + a = i + (a + 1) by omega]
theorem dpn_cong {c c' : cdT} : ∀ (a i k : Nat), (∀ j, i ≤ j → j < i + a → c j = c' j) → dpn c a i k = dpn c' a i k := by
  intro a
  induction a with
  | zero => intro i k _; rfl
  | succ a ih =>
    intro i k h
    rw [dpn, dpn, h i (by omega) (by omega)]
    cases dps (c' i) k with
    | none => rfl
    | some k' => exact ih (i + 1) k' (fun j h1 h2 => h j (by omega) (by omega))
/-- what the kinds are -/
theorem tk_val : (∃ j, j < 21 ∧ tkK lg tb L p = nI j ∧ (tkF lg tb L p).2.2.2 = nI j) ∨ (∃ j, 21 ≤ j ∧ j ≤ 33 ∧ tkK lg tb L p = nI j ∧ (tkF lg tb L p).2.2.2 = sgV (nI j)) ∨ tkK lg tb L p = 34 ∨ tkK lg tb L p = 35 ∨ tkK lg tb L p = 36 ∨ tkK lg tb L p = 37 := by
  unfold tkK tkF
  by_cases h0 : p < L
  · rw [if_neg (fun z => z h0)]
    by_cases h1 : ltr (tb p)
    · rw [if_pos h1]
      show (∃ j, j < 21 ∧ (if 6 < runE ltr tb L p - p then (37 : Int32) else if tkW lg tb p (runE ltr tb L p) = -1 then 35 else tkW lg tb p (runE ltr tb L p)) = nI j ∧ (if tkW lg tb p (runE ltr tb L p) = -1 then _ else tkW lg tb p (runE ltr tb L p)) = nI j) ∨ _
      by_cases h6 : 6 < runE ltr tb L p - p
      · exact Or.inr (Or.inr (Or.inr (Or.inr (Or.inr (if_pos h6)))))
      · by_cases hw : tkW lg tb p (runE ltr tb L p) = -1
        · refine Or.inr (Or.inr (Or.inr (Or.inl ?_)))
          show (if 6 < runE ltr tb L p - p then (37 : Int32) else if tkW lg tb p (runE ltr tb L p) = -1 then 35 else tkW lg tb p (runE ltr tb L p)) = 35
          rw [if_neg h6, if_pos hw]
        · rw [if_neg h6, if_neg hw, if_neg hw]
          have := fndL_rng (f := lg) (x := nI (wv tb p (runE ltr tb L p) 6)) 21 0
          unfold tkW at hw ⊢
          rw [if_neg h6] at hw ⊢
          rcases this with w | ⟨j, -, hj, e, -⟩
          · exact absurd w hw
          · exact Or.inl ⟨j, by omega, e, e⟩
    · rw [if_neg h1]
      by_cases h2 : dgs (tb p)
      · rw [if_pos h2]
        exact Or.inr (Or.inr (Or.inl rfl))
      · rw [if_neg h2]
        show _ ∨ (∃ j, 21 ≤ j ∧ j ≤ 33 ∧ sgK (tb p) (nxB tb L (p + 1)) = nI j ∧ sgV (sgK (tb p) (nxB tb L (p + 1))) = sgV (nI j)) ∨ _ ∨ _ ∨ _ ∨ sgK (tb p) (nxB tb L (p + 1)) = 37
        have : (∃ j, 21 ≤ j ∧ j ≤ 33 ∧ sgK (tb p) (nxB tb L (p + 1)) = nI j) ∨ sgK (tb p) (nxB tb L (p + 1)) = 37 := by
          unfold sgK
          repeat' split
          · exact Or.inl ⟨22, by omega, by omega, rfl⟩
          · exact Or.inl ⟨24, by omega, by omega, rfl⟩
          · exact Or.inl ⟨21, by omega, by omega, rfl⟩
          · exact Or.inl ⟨25, by omega, by omega, rfl⟩
          · exact Or.inl ⟨26, by omega, by omega, rfl⟩
          · exact Or.inl ⟨23, by omega, by omega, rfl⟩
          · exact Or.inl ⟨27, by omega, by omega, rfl⟩
          · exact Or.inl ⟨28, by omega, by omega, rfl⟩
          · exact Or.inl ⟨29, by omega, by omega, rfl⟩
          · exact Or.inl ⟨30, by omega, by omega, rfl⟩
          · exact Or.inl ⟨31, by omega, by omega, rfl⟩
          · exact Or.inl ⟨32, by omega, by omega, rfl⟩
          · exact Or.inl ⟨33, by omega, by omega, rfl⟩
          · exact Or.inr rfl
        rcases this with ⟨j, a, b, e⟩ | e
        · exact Or.inr (Or.inl ⟨j, a, b, e, by rw [e]⟩)
        · exact Or.inr (Or.inr (Or.inr (Or.inr (Or.inr e))))
  · rw [if_pos h0]
    exact Or.inr (Or.inr (Or.inr (Or.inr (Or.inl rfl))))
theorem isW {μ : gMem} (h : atM lg tb L p μ) (j : Nat) (hj : j < 21) : (μ.1 10 0 22 = 0 ∧ μ.1 10 0 23 = nI j) ↔ tkK lg tb L p = nI j := by
  obtain ⟨-, -, h22, h23⟩ := h
  rw [h22]
  have so : ∀ i, i < 21 → sortK (nI i) = 0 := by decide
  have s2 : ∀ i, i < 38 → 21 ≤ i → ¬ sortK (nI i) = 0 := by decide
  have n6 : ∀ i, i < 34 → ¬ nI i = 36 ∧ ¬ nI i = 37 := by decide
  change (sortK (tkK lg tb L p) = 0 ∧ _) ↔ _
  change ¬ tkK lg tb L p = 36 → ¬ tkK lg tb L p = 37 → _ at h23
  rcases tk_val (lg := lg) (tb := tb) (L := L) (p := p) with ⟨i, hi, e, ev⟩ | ⟨i, h1, h2, e, ev⟩ | e | e | e | e
  · rw [e, so i hi, h23 (by rw [e]; exact (n6 i (by omega)).1) (by rw [e]; exact (n6 i (by omega)).2), ev]
    exact ⟨fun z => z.2, fun z => ⟨rfl, z⟩⟩
  · rw [e]
    exact ⟨fun z => absurd z.1 (s2 i (by omega) h1), fun z => by have := (nI_eq (by omega) (by omega)).mp z; omega⟩
  · rw [e]
    exact ⟨fun z => absurd z.1 (by decide), fun z => by have := (nI_eq (a := 34) (by omega) (by omega)).mp z; omega⟩
  · rw [e]
    exact ⟨fun z => absurd z.1 (by decide), fun z => by have := (nI_eq (a := 35) (by omega) (by omega)).mp z; omega⟩
  · rw [e]
    exact ⟨fun z => absurd z.1 (by decide), fun z => by have := (nI_eq (a := 36) (by omega) (by omega)).mp z; omega⟩
  · rw [e]
    exact ⟨fun z => absurd z.1 (by decide), fun z => by have := (nI_eq (a := 37) (by omega) (by omega)).mp z; omega⟩
theorem isS {μ : gMem} (h : atM lg tb L p μ) (j : Nat) (h21 : 21 ≤ j) (hj : j ≤ 33) {x : Int32} (hx : x = sgV (nI j)) : (μ.1 10 0 22 = 3 ∧ μ.1 10 0 23 = x) ↔ tkK lg tb L p = nI j := by
  obtain ⟨-, -, h22, h23⟩ := h
  rw [h22, hx]
  have so : ∀ i, i < 21 → ¬ sortK (nI i) = 3 := by decide
  have s2 : ∀ i, i < 34 → 21 ≤ i → sortK (nI i) = 3 := by decide
  have n6 : ∀ i, i < 34 → ¬ nI i = 36 ∧ ¬ nI i = 37 := by decide
  have inj : ∀ i, i < 34 → 21 ≤ i → ∀ j, j < 34 → 21 ≤ j → sgV (nI i) = sgV (nI j) → i = j := by decide
  change (sortK (tkK lg tb L p) = 3 ∧ _) ↔ _
  change ¬ tkK lg tb L p = 36 → ¬ tkK lg tb L p = 37 → _ at h23
  rcases tk_val (lg := lg) (tb := tb) (L := L) (p := p) with ⟨i, hi, e, ev⟩ | ⟨i, h1, h2, e, ev⟩ | e | e | e | e
  · rw [e]
    exact ⟨fun z => absurd z.1 (so i hi), fun z => by have := (nI_eq (by omega) (by omega)).mp z; omega⟩
  · rw [e, s2 i (by omega) h1, h23 (by rw [e]; exact (n6 i (by omega)).1) (by rw [e]; exact (n6 i (by omega)).2), ev]
    exact ⟨fun z => by rw [inj i (by omega) h1 j (by omega) h21 z.2], fun z => ⟨rfl, by rw [z]⟩⟩
  · rw [e]
    exact ⟨fun z => absurd z.1 (by decide), fun z => by have := (nI_eq (a := 34) (by omega) (by omega)).mp z; omega⟩
  · rw [e]
    exact ⟨fun z => absurd z.1 (by decide), fun z => by have := (nI_eq (a := 35) (by omega) (by omega)).mp z; omega⟩
  · rw [e]
    exact ⟨fun z => absurd z.1 (by decide), fun z => by have := (nI_eq (a := 36) (by omega) (by omega)).mp z; omega⟩
  · rw [e]
    exact ⟨fun z => absurd z.1 (by decide), fun z => by have := (nI_eq (a := 37) (by omega) (by omega)).mp z; omega⟩
end RP2
