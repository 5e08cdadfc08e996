/-! THE STATE as a value, and how class and reference hold it -/
/-- a world: people, their plans, day, wet days, number -/
abbrev wV : Type := pplS × (Nat → Nat → Int32) × Nat × Int32 × Int32
/-- what is told: law and numbers, deeds, values, minutes, names, (plans, rain, seed, knots) -/
abbrev tdV : Type := wEnv × Nat × tTV × (Nat → Int32) × (Nat → Int32) × (Nat → Int32) × (Int32 × Int32 × Int32 × Int32)
/-- told; now; notes (many, known by, what); image; undo (many, worlds, changes); tape (many, what) and fault, place -/
abbrev sV : Type := tdV × wV × (Nat × Int32 × nTV) × Option wV × (Nat × (Nat → wV) × (Nat → Int32 × Int32 × Int32 × Int32)) × (Nat × (Nat → Int32) × Int32 × Int32)
noncomputable def eA (σ : sV) : wEnv := mkA σ.1.1 (fun p => psum σ.1.2.2.1.1 (σ.2.1.2.1 p) σ.1.2.1) (fun p => psum σ.1.2.2.1.2.1 (σ.2.1.2.1 p) σ.1.2.1)
def hC (μ : gMem) (w : Nat) (V : wV) : Prop := (∀ k, k < 5 → μ.1 4 (5 * w + k) = V.1 k) ∧ (∀ k, k < 5 → μ.1 331 (5 * w + k) = V.2.1 k) ∧ μ.1 8 w 1 = nI V.2.2.1 ∧ μ.1 8 w 2 = V.2.2.2.1 ∧ μ.2.1 8 w 3 = V.2.2.2.2.toInt64
def hM (μ : gMem) (men m : Nat) (V : wV) : Prop := (∀ k, k < men → ∀ j, j ≤ 10 → μ.1 (mkk j) 0 (5 * m + k) = V.1 k j) ∧ (∀ k, k < 5 → ∀ j, j < 6 → μ.1 751 0 (30 * m + 6 * k + j) = V.2.1 k j) ∧ μ.1 737 0 m = nI V.2.2.1 ∧ μ.1 738 0 m = V.2.2.2.1 ∧ μ.1 739 0 m = V.2.2.2.2
def okV (A : wEnv) (V : wV) : Prop := okS A 0 V.1 V.2.2.1 ∧ (∀ p, p < eMen A → (V.1 p 9).toInt ≤ 999) ∧ (∀ p, p < 5 → ∀ j, j < 6 → inR (V.2.1 p j) 0 9) ∧ 0 ≤ V.2.2.2.2.toInt ∧ V.2.2.1 ≤ 9900 ∧ (∀ k, k < 5 → ∀ j, 10 < j → V.1 k j = 0) ∧ ∀ k, k < 5 → ∀ j, 5 < j → V.2.1 k j = 0
/-- what is told -/
def tdC (μ : gMem) (t : Nat) (τ : tdV) : Prop := tC μ t τ.2.1 τ.1 ∧ tvC μ t τ.2.1 τ.2.2.1 ∧ (∀ z, z < τ.2.1 → μ.1 521 t z = τ.2.2.2.1 z ∧ μ.1 518 t z = τ.2.2.2.2.2.1 z) ∧ (∀ p, p < eMen τ.1 → μ.1 513 t p = τ.2.2.2.2.1 p) ∧ μ.1 7 t 10 = τ.2.2.2.2.2.2.1 ∧ μ.1 7 t 16 = τ.2.2.2.2.2.2.2.1 ∧ μ.1 7 t 17 = τ.2.2.2.2.2.2.2.2.1 ∧ μ.1 2 t 7 = τ.2.2.2.2.2.2.2.2.2
def tdM (μ : gMem) (τ : tdV) : Prop := tM μ τ.2.1 τ.1 ∧ tvM μ τ.2.1 (eMen τ.1) τ.2.2.1 ∧ (∀ z, z < τ.2.1 → μ.1 715 0 z = τ.2.2.2.1 z ∧ μ.1 712 0 z = τ.2.2.2.2.2.1 z) ∧ (∀ p, p < eMen τ.1 → μ.1 708 0 p = τ.2.2.2.2.1 p) ∧ μ.1 707 0 2 = τ.2.2.2.2.2.2.1 ∧ μ.1 707 0 7 = τ.2.2.2.2.2.2.2.1 ∧ μ.1 707 0 8 = τ.2.2.2.2.2.2.2.2.1 ∧ μ.1 707 0 9 = τ.2.2.2.2.2.2.2.2.2
def tdOk (τ : tdV) : Prop := (eMen τ.1 ≤ 5 ∧ 0 < eBd τ.1 ∧ eBd τ.1 ≤ 14 ∧ lwOk τ.1.1.1 τ.1.1.2.1 τ.1.1.2.2) ∧ τ.2.1 ≤ 6 ∧ tvOk τ.2.1 (eMen τ.1) τ.2.2.1 ∧ tvOk2 τ.2.1 τ.2.2.1 ∧ (∀ z, z < τ.2.1 → inR (τ.2.2.2.1 z) 0 9) ∧ inR τ.2.2.2.2.2.2.2.1 0 100 ∧ inR τ.2.2.2.2.2.2.2.2.1 0 99999
/-- notes -/
def noC (μ : gMem) (ν : Nat × Int32 × nTV) : Prop := μ.1 3 0 6 = nI ν.1 ∧ μ.1 3 0 7 = ν.2.1 ∧ ∀ k, k < ν.1 → μ.1 260 0 k = ν.2.2.1 k ∧ (ν.2.2.1 k = -1 → μ.1 256 0 k = ν.2.2.2.1 k ∧ μ.1 257 0 k = ν.2.2.2.2.1 k ∧ μ.1 258 0 k = ν.2.2.2.2.2.1 k ∧ μ.1 259 0 k = ν.2.2.2.2.2.2 k)
def noM (μ : gMem) (ν : Nat × Int32 × nTV) : Prop := μ.1 10 0 55 = nI ν.1 ∧ μ.1 10 0 56 = ν.2.1 ∧ ∀ k, k < ν.1 → μ.1 765 0 k = ν.2.2.1 k ∧ (ν.2.2.1 k = -1 → μ.1 761 0 k = ν.2.2.2.1 k ∧ μ.1 762 0 k = ν.2.2.2.2.1 k ∧ μ.1 763 0 k = ν.2.2.2.2.2.1 k ∧ μ.1 764 0 k = ν.2.2.2.2.2.2 k)
def noOk (men : Nat) (ν : Nat × Int32 × nTV) : Prop := ν.1 ≤ 24 ∧ (ν.2.1 = -1 ∨ ∃ k, k ≤ ν.1 ∧ ν.2.1 = nI k) ∧ ntOk men ν.1 ν.2.2
/-- image -/
def imC (μ : gMem) (I : Option wV) : Prop := match I with | none => μ.1 9 0 11 = 0 | some V => μ.1 9 0 11 = 1 ∧ hC μ 1 V
def imM (μ : gMem) (men : Nat) (I : Option wV) : Prop := match I with | none => μ.1 10 0 49 = 0 | some V => μ.1 10 0 49 = 1 ∧ hM μ men 2 V
/-- undo -/
def unC (μ : gMem) (υ : Nat × (Nat → wV) × (Nat → Int32 × Int32 × Int32 × Int32)) : Prop := μ.1 0 0 4 = nI υ.1 ∧ ∀ k, k < υ.1 → (μ.1 64 0 k, μ.1 65 0 k, μ.1 66 0 k, μ.1 67 0 k) = υ.2.2 k
def unM (μ : gMem) (men : Nat) (υ : Nat × (Nat → wV) × (Nat → Int32 × Int32 × Int32 × Int32)) : Prop := μ.1 10 0 50 = nI υ.1 ∧ ∀ k, k < υ.1 → hM μ men (3 + k) (υ.2.1 k)
/-- V is V' ahead of the change c -/
def chg (men n : Nat) (c : Int32 × Int32 × Int32 × Int32) (V' V : wV) : Prop := V.2.2 = V'.2.2 ∧ ∃ p, p < men ∧ c.2.1 = nI p ∧ ((c.1 = 0 ∧ (c.2.2.2 = 0 ∨ c.2.2.2 = 1) ∧ V.1 = setS V'.1 p 10 c.2.2.2 ∧ V.2.1 = V'.2.1) ∨ (c.1 = 1 ∧ V.1 = setS V'.1 p 0 c.2.2.2 ∧ V.2.1 = V'.2.1) ∨ (c.1 = 2 ∧ V.1 = V'.1 ∧ ∃ j, j < n ∧ c.2.2.1 = nI j ∧ V.2.1 = setS V'.2.1 p j c.2.2.2) ∨ (c.1 = 3 ∧ V.1 = setS V'.1 p 9 c.2.2.2 ∧ V.2.1 = V'.2.1))
def unOk (A : wEnv) (n : Nat) (V : wV) (υ : Nat × (Nat → wV) × (Nat → Int32 × Int32 × Int32 × Int32)) : Prop := υ.1 ≤ 20 ∧ υ.2.1 υ.1 = V ∧ ∀ k, k < υ.1 → okV A (υ.2.1 k) ∧ chg (eMen A) n (υ.2.2 k) (υ.2.1 (k + 1)) (υ.2.1 k)
/-- the words of the language, five bits a letter -/
def lgL : List Nat := [437714944, 139628544, 549500928, 73007104, 538738688, 605337600, 642945024, 404455424, 559521792, 269559424, 202688512, 522190848, 48365568, 486146048, 68785152, 250654720, 658686560, 620462080, 403811936, 72623556, 136085504]
def lgW : Nat → Int32 := fun z => nI (lgL.getD z 0)
/-- tape and fault -/
def tpC (μ : gMem) (π : Nat × (Nat → Int32) × Int32 × Int32) : Prop := μ.1 6 0 2 = nI π.1 ∧ (∀ k, k < π.1 → μ.1 448 0 k = (π.2.1 k).toInt8.toInt32) ∧ μ.1 5 0 5 = π.2.2.1 ∧ μ.1 5 0 6 = π.2.2.2 ∧ ∀ z, z < 21 → μ.1 449 0 z = lgW z
def tpM (μ : gMem) (π : Nat × (Nat → Int32) × Int32 × Int32) : Prop := μ.1 10 0 2 = nI π.1 ∧ (∀ k, k < π.1 → μ.1 705 0 k = π.2.1 k) ∧ μ.1 10 0 26 = π.2.2.1 ∧ μ.1 10 0 27 = π.2.2.2
def tpOk (π : Nat × (Nat → Int32) × Int32 × Int32) : Prop := π.1 ≤ 700 ∧ ∀ k, k < π.1 → inR (π.2.1 k) 0 255
/-- the class holds σ -/
def cSt (μ : gMem) (t : Nat) (σ : sV) : Prop := (μ.2.2 0 = t ∧ t < 2 ∧ μ.2.2 1 = 1 - t) ∧ (μ.1 8 0 5 = -1 ∧ μ.1 8 0 6 = -1 ∧ μ.1 8 0 7 = 0) ∧ jk μ ∧ tdC μ t σ.1 ∧ hC μ 0 σ.2.1 ∧ noC μ σ.2.2.1 ∧ imC μ σ.2.2.2.1 ∧ unC μ σ.2.2.2.2.1 ∧ tpC μ σ.2.2.2.2.2
/-- the reference holds σ -/
def mSt (μ : gMem) (σ : sV) : Prop := (μ.1 10 0 51 = 0 ∧ μ.1 10 0 52 = -1) ∧ tdM μ σ.1 ∧ hM μ (eMen σ.1.1) 0 σ.2.1 ∧ noM μ σ.2.2.1 ∧ imM μ (eMen σ.1.1) σ.2.2.2.1 ∧ unM μ (eMen σ.1.1) σ.2.2.2.2.1 ∧ tpM μ σ.2.2.2.2.2
def sOkS (σ : sV) : Prop := tdOk σ.1 ∧ okV σ.1.1 σ.2.1 ∧ noOk (eMen σ.1.1) σ.2.2.1 ∧ (∀ V, σ.2.2.2.1 = some V → okV σ.1.1 V) ∧ unOk σ.1.1 σ.1.2.1 σ.2.1 σ.2.2.2.2.1 ∧ tpOk σ.2.2.2.2.2
theorem eA_ok {σ : sV} (h : sOkS σ) : okA (eA σ) := by
  obtain ⟨⟨⟨h1, h2, h3, h4⟩, h5, h6, -⟩, hV, -⟩ := h
  refine ⟨h1, h2, h3, h4, fun p hp => ?_⟩
  have hp2 : p < eMen σ.1.1 := hp
  have := psum_rng (f := σ.1.2.2.1.2.1) (g := σ.2.1.2.1 p) σ.1.2.1 (fun z hz => ⟨h6.1 z hz, hV.2.2.1 p (by omega) z (by omega)⟩) h5
  show 0 ≤ (psum σ.1.2.2.1.2.1 (σ.2.1.2.1 p) σ.1.2.1).toInt ∧ (psum σ.1.2.2.1.2.1 (σ.2.1.2.1 p) σ.1.2.1).toInt ≤ 2000
  omega
theorem cSt.nC {μ : gMem} {t : Nat} {σ : sV} (h : cSt μ t σ) (hO : sOkS σ) : nC μ t σ.1.2.1 (eA σ) σ.2.1.1 σ.2.1.2.2.1 := by
  obtain ⟨⟨h0, ht, -⟩, ⟨c5, c6, c7⟩, hj, hT, hW, -⟩ := h
  have hm5 := hO.1.1.1
  have h6 := hO.1.2.1
  refine ⟨h0, ht, ⟨hT.1, eA_ok hO, ⟨c5, c7, fun p hp => ?_⟩, fun p hp => ?_, ⟨hW.1, hj⟩, hO.2.1.1, hW.2.2.1⟩, rfl, hO.2.1.2.2.2.2.1, hO.2.1.2.1⟩
  · have hp2 : p < eMen σ.1.1 := hp
    rw [c6]
    exact ⟨fun _ => ⟨nI_nm1 (by omega), Or.inl rfl⟩, fun _ => rfl⟩
  · have hp2 : p < eMen σ.1.1 := hp
    rw [hW.2.1 p (by omega)]
    exact ⟨psum_cong _ (fun z hz => ⟨(hT.2.1.1 z hz).1, rfl⟩), psum_cong _ (fun z hz => ⟨(hT.2.1.1 z hz).2, rfl⟩)⟩
theorem mSt.nM {μ : gMem} {σ : sV} (h : mSt μ σ) (hO : sOkS σ) : nM μ σ.1.2.1 (eA σ) σ.2.1.1 σ.2.1.2.2.1 := by
  obtain ⟨⟨c51, c52⟩, hT, hW, -⟩ := h
  have hm5 := hO.1.1.1
  have h6 := hO.1.2.1
  refine ⟨⟨hT.1, eA_ok hO, ⟨?_, ?_, fun p hp => ?_⟩, fun p hp => ?_, fun p hp => ?_, hO.2.1.1, hW.2.2.1⟩, rfl, hO.2.1.2.2.2.2.1, c51, c52⟩
  · unfold gnM; rw [if_neg (by rw [c51]; decide)]; rfl
  · unfold plM; rw [if_neg (by rw [c51]; decide)]; rfl
  · have hp2 : p < eMen σ.1.1 := hp
    exact ⟨fun _ => nI_nm1 (by omega), fun _ => rfl⟩
  · have hp2 : p < eMen σ.1.1 := hp
    unfold prM
    rw [if_neg (by rw [c51]; decide), if_neg (by rw [c51]; decide)]
    exact ⟨psum_cong _ (fun z hz => ⟨(hT.2.1.1 z hz).1, hW.2.1 p (by omega) z (by omega)⟩), psum_cong _ (fun z hz => ⟨(hT.2.1.1 z hz).2, hW.2.1 p (by omega) z (by omega)⟩)⟩
  · have hp2 : p < eMen σ.1.1 := hp
    have v := hW.1 p hp2
    refine ⟨?_, ?_⟩
    · funext j
      unfold peM bnM PM
      by_cases hj : j = 10
      · rw [if_pos hj, if_neg (by rw [c51]; decide), hj]
        exact v 10 (by omega)
      · rw [if_neg hj]
        by_cases hj2 : j ≤ 10
        · rw [if_pos hj2]; exact v j hj2
        · rw [if_neg hj2]
          exact (hO.2.1.2.2.2.2.2.1 p (by omega) j (by omega)).symm
    · have v10 : μ.1 747 0 (5 * 0 + p) = σ.2.1.1 p 10 := v 10 (by omega)
      rw [v10]
      exact hO.2.1.1.2.2.2 p (by omega)
/-- nothing of the reference has changed -/
def mKp (μ μ' : gMem) : Prop := ∀ k j, k = 10 ∨ 700 ≤ k → μ'.1 k j = μ.1 k j
/-- nothing of the class has changed -/
def cKp (μ μ' : gMem) : Prop := (∀ k j, ¬ k = 10 → k < 700 → μ'.1 k j = μ.1 k j) ∧ μ'.2.2 = μ.2.2 ∧ ∀ k j, k < 700 → μ'.2.1 k j = μ.2.1 k j
theorem mKp.rf {μ : gMem} : mKp μ μ := fun _ _ _ => rfl
theorem mKp.tr {μ μ1 μ2 : gMem} (h : mKp μ μ1) (h2 : mKp μ1 μ2) : mKp μ μ2 := fun k j a => (h2 k j a).trans (h k j a)
theorem cKp.rf {μ : gMem} : cKp μ μ := ⟨fun _ _ _ _ => rfl, rfl, fun _ _ _ => rfl⟩
theorem cKp.tr {μ μ1 μ2 : gMem} (h : cKp μ μ1) (h2 : cKp μ1 μ2) : cKp μ μ2 := ⟨fun k j a b => (h2.1 k j a b).trans (h.1 k j a b), h2.2.1.trans h.2.1, fun k j a => (h2.2.2 k j a).trans (h.2.2 k j a)⟩
theorem cKp.put {μ μ1 : gMem} {k i j : Nat} {v : Int32} (h : cKp μ μ1) (hk : k = 10 ∨ 700 ≤ k) : cKp μ (gsI μ1 k i j v) := h.tr ⟨fun k' j' a b => gsI_off (by omega), rfl, fun _ _ _ => rfl⟩
theorem mKp.put {μ μ1 : gMem} {k i j : Nat} {v : Int32} (h : mKp μ μ1) (hk : ¬ k = 10 ∧ k < 700) : mKp μ (gsI μ1 k i j v) := h.tr (fun k' j' a => gsI_off (by omega))
theorem cwF.kp {μ μ' : gMem} (h : cwF μ μ') : mKp μ μ' := fun k j hk => h.1 k j (by omega) (by omega) (by omega) (by omega) (by omega)
theorem mvF.kp {μ μ' : gMem} (h : mvF μ μ') : cKp μ μ' := ⟨fun k j a b => h.1 k j (by omega) (by omega) (by omega) (by omega) (by omega), h.2.2.2.2.2.1, fun k j a => h.2.2.2.2.2.2 k j (by omega) (by omega)⟩
theorem mcp_kp {μ : gMem} {a b : Nat} : cKp μ (mcp μ a b) := ⟨fun k j _ h => mcp_off (by omega), rfl, fun _ _ _ => rfl⟩
theorem hC.of {μ μ' : gMem} {w : Nat} {V : wV} (h : hC μ w V) (h4 : ∀ k, k < 5 → μ'.1 4 (5 * w + k) = μ.1 4 (5 * w + k)) (h331 : ∀ k, k < 5 → μ'.1 331 (5 * w + k) = μ.1 331 (5 * w + k)) (h8 : μ'.1 8 w 1 = μ.1 8 w 1 ∧ μ'.1 8 w 2 = μ.1 8 w 2) (hl : μ'.2.1 8 w 3 = μ.2.1 8 w 3) : hC μ' w V := ⟨fun k hk => (h4 k hk).trans (h.1 k hk), fun k hk => (h331 k hk).trans (h.2.1 k hk), h8.1.trans h.2.2.1, h8.2.trans h.2.2.2.1, hl.trans h.2.2.2.2⟩
theorem hM.of {μ μ' : gMem} {men m : Nat} {V : wV} (h : hM μ men m V) (h5 : ∀ k, 740 ≤ k → k ≤ 750 → ∀ z, 5 * m ≤ z → z < 5 * m + men → μ'.1 k 0 z = μ.1 k 0 z) (h7 : ∀ z, 30 * m ≤ z → z < 30 * m + 30 → μ'.1 751 0 z = μ.1 751 0 z) (h3 : ∀ k, 737 ≤ k → k ≤ 739 → μ'.1 k 0 m = μ.1 k 0 m) : hM μ' men m V := by
  refine ⟨fun k hk j hj => ?_, fun k hk j hj => ?_, ?_, ?_, ?_⟩
  · have := mkk_rng j (by omega)
    rw [h5 _ (by omega) (by omega) _ (by omega) (by omega)]
    exact h.1 k hk j hj
  · rw [h7 _ (by omega) (by omega)]
    exact h.2.1 k hk j hj
  · rw [h3 737 (by omega) (by omega)]; exact h.2.2.1
  · rw [h3 738 (by omega) (by omega)]; exact h.2.2.2.1
  · rw [h3 739 (by omega) (by omega)]; exact h.2.2.2.2
theorem tdC.of {μ μ' : gMem} {t : Nat} {τ : tdV} (h : tdC μ t τ) (hk : ∀ k, k = 2 ∨ k = 7 ∨ (192 ≤ k ∧ k ≤ 195) ∨ (513 ≤ k ∧ k ≤ 523) → μ'.1 k t = μ.1 k t) : tdC μ' t τ := by
  refine ⟨h.1.of (hk _ (by omega)) (hk _ (by omega)) (hk _ (by omega)) (hk _ (by omega)) (hk _ (by omega)) (by rw [hk _ (by omega)]) (hk _ (by omega)), ?_, ?_, ?_, ?_⟩
  · unfold tvC
    rw [hk 519 (by omega), hk 520 (by omega), hk 523 (by omega), hk 514 (by omega), hk 515 (by omega)]
    exact h.2.1
  · rw [hk 521 (by omega), hk 518 (by omega)]; exact h.2.2.1
  · rw [hk 513 (by omega)]; exact h.2.2.2.1
  · rw [hk 7 (by omega), hk 2 (by omega)]; exact h.2.2.2.2
theorem tdM.of {μ μ' : gMem} {τ : tdV} (h : tdM μ τ) (hk : ∀ k, 707 ≤ k ∧ k ≤ 720 → μ'.1 k 0 = μ.1 k 0) : tdM μ' τ := by
  refine ⟨h.1.of (hk _ (by omega)) (hk _ (by omega)) (hk _ (by omega)) (hk _ (by omega)) (hk _ (by omega)) (hk _ (by omega)), ?_, ?_, ?_, ?_⟩
  · unfold tvM
    rw [hk 713 (by omega), hk 714 (by omega), hk 716 (by omega), hk 709 (by omega), hk 710 (by omega)]
    exact h.2.1
  · rw [hk 715 (by omega), hk 712 (by omega)]; exact h.2.2.1
  · rw [hk 708 (by omega)]; exact h.2.2.2.1
  · rw [hk 707 (by omega)]; exact h.2.2.2.2
theorem noC.of {μ μ' : gMem} {ν : Nat × Int32 × nTV} (h : noC μ ν) (hk : ∀ k, k = 3 ∨ (256 ≤ k ∧ k ≤ 260) → μ'.1 k 0 = μ.1 k 0) : noC μ' ν := by
  unfold noC
  rw [hk 3 (by omega), hk 256 (by omega), hk 257 (by omega), hk 258 (by omega), hk 259 (by omega), hk 260 (by omega)]
  exact h
theorem noM.of {μ μ' : gMem} {ν : Nat × Int32 × nTV} (h : noM μ ν) (hk : ∀ k, 761 ≤ k ∧ k ≤ 765 → μ'.1 k 0 = μ.1 k 0) (h10 : ∀ j, j = 55 ∨ j = 56 → μ'.1 10 0 j = μ.1 10 0 j) : noM μ' ν := by
  unfold noM
  rw [hk 761 (by omega), hk 762 (by omega), hk 763 (by omega), hk 764 (by omega), hk 765 (by omega), h10 55 (by omega), h10 56 (by omega)]
  exact h
theorem imC.of {μ μ' : gMem} {I : Option wV} (h : imC μ I) (h9 : μ'.1 9 0 11 = μ.1 9 0 11) (hW : ∀ V, hC μ 1 V → hC μ' 1 V) : imC μ' I := by
  cases I with
  | none => exact h9.trans h
  | some V => exact ⟨h9.trans h.1, hW V h.2⟩
theorem imM.of {μ μ' : gMem} {men : Nat} {I : Option wV} (h : imM μ men I) (h9 : μ'.1 10 0 49 = μ.1 10 0 49) (hW : ∀ V, hM μ men 2 V → hM μ' men 2 V) : imM μ' men I := by
  cases I with
  | none => exact h9.trans h
  | some V => exact ⟨h9.trans h.1, hW V h.2⟩
theorem unC.of {μ μ' : gMem} {υ : Nat × (Nat → wV) × (Nat → Int32 × Int32 × Int32 × Int32)} (h : unC μ υ) (h0 : μ'.1 0 0 4 = μ.1 0 0 4) (hk : ∀ k, 64 ≤ k ∧ k ≤ 67 → μ'.1 k 0 = μ.1 k 0) : unC μ' υ := by
  refine ⟨h0.trans h.1, ?_⟩
  rw [hk 64 (by omega), hk 65 (by omega), hk 66 (by omega), hk 67 (by omega)]
  exact h.2
theorem tpC.of {μ μ' : gMem} {π : Nat × (Nat → Int32) × Int32 × Int32} (h : tpC μ π) (h6 : μ'.1 6 0 = μ.1 6 0) (h448 : μ'.1 448 0 = μ.1 448 0) (h5 : μ'.1 5 0 = μ.1 5 0) (h449 : μ'.1 449 0 = μ.1 449 0) : tpC μ' π := by
  unfold tpC
  rw [h6, h448, h5, h449]
  exact h
theorem tpM.of {μ μ' : gMem} {π : Nat × (Nat → Int32) × Int32 × Int32} (h : tpM μ π) (h10 : ∀ j, j = 2 ∨ j = 26 ∨ j = 27 → μ'.1 10 0 j = μ.1 10 0 j) (h7 : μ'.1 705 0 = μ.1 705 0) : tpM μ' π := by
  unfold tpM
  rw [h10 2 (by omega), h10 26 (by omega), h10 27 (by omega), h7]
  exact h
theorem mSt.kp {μ μ' : gMem} {σ : sV} (h : mSt μ σ) (hK : mKp μ μ') : mSt μ' σ := by
  obtain ⟨h1, h2, h3, h4, h5, h6, h7⟩ := h
  have e10 : μ'.1 10 0 = μ.1 10 0 := hK 10 0 (by omega)
  have hW : ∀ m V, hM μ (eMen σ.1.1) m V → hM μ' (eMen σ.1.1) m V := fun m V hw => hw.of (fun k a b z _ _ => by rw [hK k 0 (by omega)]) (fun z _ _ => by rw [hK 751 0 (by omega)]) (fun k a b => by rw [hK k 0 (by omega)])
  refine ⟨by rw [e10]; exact h1, h2.of (fun k hk => hK k 0 (by omega)), hW 0 _ h3, h4.of (fun k hk => hK k 0 (by omega)) (fun j _ => by rw [e10]), h5.of (by rw [e10]) (hW 2), ⟨by rw [e10]; exact h6.1, fun k hk => hW _ _ (h6.2 k hk)⟩, h7.of (fun j _ => by rw [e10]) (hK 705 0 (by omega))⟩
theorem cSt.kp {μ μ' : gMem} {t : Nat} {σ : sV} (h : cSt μ t σ) (hK : cKp μ μ') : cSt μ' t σ := by
  obtain ⟨h1, h2, hj, h3, h4, h5, h6, h7, h8⟩ := h
  have g : ∀ k j, ¬ k = 10 → k < 700 → μ'.1 k j = μ.1 k j := hK.1
  have hW : ∀ w V, hC μ w V → hC μ' w V := fun w V hw => hw.of (fun k _ => g 4 _ (by omega) (by omega)) (fun k _ => g 331 _ (by omega) (by omega)) ⟨by rw [g 8 w (by omega) (by omega)], by rw [g 8 w (by omega) (by omega)]⟩ (by rw [hK.2.2 8 w (by omega)])
  refine ⟨by rw [hK.2.1]; exact h1, by rw [g 8 0 (by omega) (by omega)]; exact h2, hj.of (fun i => g 4 i (by omega) (by omega)) (fun i => g 331 i (by omega) (by omega)), h3.of (fun k hk => g k t (by omega) (by omega)), hW 0 _ h4, h5.of (fun k hk => g k 0 (by omega) (by omega)), h6.of (by rw [g 9 0 (by omega) (by omega)]) (hW 1), h7.of (by rw [g 0 0 (by omega) (by omega)]) (fun k hk => g k 0 (by omega) (by omega)), h8.of (g 6 0 (by omega) (by omega)) (g 448 0 (by omega) (by omega)) (g 5 0 (by omega) (by omega)) (g 449 0 (by omega) (by omega))⟩
/-- a question leaves the state -/
theorem cSt.cw {μ μ' : gMem} {t : Nat} {σ : sV} (h : cSt μ t σ) (hF : cwF μ μ') (hj : jk μ') : cSt μ' t σ := by
  obtain ⟨h1, h2, -, h3, h4, h5, h6, h7, h8⟩ := h
  have hW : ∀ w V, w < 2 → hC μ w V → hC μ' w V := fun w V h2 hw => hw.of (fun k _ => hF.g (by omega)) (fun k _ => hF.g (by omega)) ⟨by rw [hF.g (k := 8) (j := w) (by omega)], by rw [hF.g (k := 8) (j := w) (by omega)]⟩ (by rw [hF.2.2 8 w (by omega) (by omega) (by omega) (by omega)])
  refine ⟨by rw [hF.2.1]; exact h1, by rw [hF.g (k := 8) (j := 0) (by omega)]; exact h2, hj, h3.of (fun k hk => hF.g (by omega)), hW 0 _ (by omega) h4, h5.of (fun k hk => hF.g (by omega)), h6.of (by rw [hF.g (k := 9) (j := 0) (by omega)]) (fun V => hW 1 V (by omega)), h7.of (by rw [hF.g (k := 0) (j := 0) (by omega)]) (fun k hk => hF.g (by omega)), h8.of (hF.g (by omega)) (hF.g (by omega)) (hF.g (by omega)) (hF.g (by omega))⟩
theorem mSt.mv {μ μ' : gMem} {σ : sV} (h : mSt μ σ) (hO : sOkS σ) (hF : mvF μ μ') : mSt μ' σ := by
  obtain ⟨h1, h2, h3, h4, h5, h6, h7⟩ := h
  have hm5 := hO.1.1.1
  have e10 : ∀ j, ¬ j = 0 → ¬ j = 32 → ¬ j = 48 → μ'.1 10 0 j = μ.1 10 0 j := hF.2.2.2.2.1
  have hW : ∀ m V, ¬ m = 1 → hM μ (eMen σ.1.1) m V → hM μ' (eMen σ.1.1) m V := fun m V hm hw => hw.of (fun k a b z c e => hF.2.1 k a b z (by omega)) (fun z a b => hF.2.2.2.1 z (by omega)) (fun k a b => hF.2.2.1 k a b m hm)
  refine ⟨by rw [e10 51 (by omega) (by omega) (by omega), e10 52 (by omega) (by omega) (by omega)]; exact h1, h2.of (fun k hk => hF.1 k 0 (by omega) (by omega) (by omega) (by omega) (by omega)), hW 0 _ (by omega) h3, h4.of (fun k hk => hF.1 k 0 (by omega) (by omega) (by omega) (by omega) (by omega)) (fun j _ => e10 j (by omega) (by omega) (by omega)), h5.of (e10 49 (by omega) (by omega) (by omega)) (fun V => hW 2 V (by omega)), ⟨by rw [e10 50 (by omega) (by omega) (by omega)]; exact h6.1, fun k hk => hW _ _ (by omega) (h6.2 k hk)⟩, h7.of (fun j _ => e10 j (by omega) (by omega) (by omega)) (hF.1 705 0 (by omega) (by omega) (by omega) (by omega) (by omega))⟩
/-- is it wet: by both -/
theorem wt_eq {μ μ' : gMem} {t : Nat} {σ : sV} (h : cSt μ t σ) (h' : mSt μ' σ) : wtC μ t = wtM μ' := by
  have od : odM μ' = σ.1.2.2.2.2.2.2.2.1 := by
    unfold odM
    rw [if_neg (by rw [h'.1.1]; decide)]
    exact h'.2.1.2.2.2.2.2.1
  unfold wtC wtM wtG
  rw [od, h.2.2.2.1.2.2.2.2.2.1]
  by_cases hr : σ.1.2.2.2.2.2.2.2.1 < 50
  · rw [if_pos hr, bI, if_neg (fun w => w hr)]
  · rw [if_neg hr, bI, if_pos hr]
