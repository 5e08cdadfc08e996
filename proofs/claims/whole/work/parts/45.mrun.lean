/-! the reference's run of days -/
theorem psum_cong {f g f' g' : Nat → Int32} : ∀ n, (∀ q, q < n → f q = f' q ∧ g q = g' q) → psum f g n = psum f' g' n := by
  intro n
  induction n with
  | zero => intro _; rfl
  | succ n ih =>
    intro h
    simp only [psum]
    rw [ih (fun q hq => h q (by omega)), (h n (by omega)).1, (h n (by omega)).2]
/-- what a run of the reference changes -/
def mqF (μ μ' : gMem) : Prop := (∀ k j, ¬ (737 ≤ k ∧ k ≤ 751 ∧ j = 0) → ¬ (k = 10 ∧ j = 0) → μ'.1 k j = μ.1 k j) ∧ (∀ k, 740 ≤ k → k ≤ 750 → ∀ z, ¬ (5 ≤ z ∧ z < 10) → μ'.1 k 0 z = μ.1 k 0 z) ∧ (∀ k, 737 ≤ k → k ≤ 739 → ∀ z, ¬ z = 1 → μ'.1 k 0 z = μ.1 k 0 z) ∧ (∀ z, ¬ (30 ≤ z ∧ z < 60) → μ'.1 751 0 z = μ.1 751 0 z) ∧ (∀ j, ¬ j = 0 → ¬ j = 32 → ¬ j = 48 → μ'.1 10 0 j = μ.1 10 0 j) ∧ μ'.2.2 = μ.2.2 ∧ ∀ k j, ¬ (k = 734 ∧ j = 0) → ¬ (k = 735 ∧ j = 0) → μ'.2.1 k j = μ.2.1 k j
theorem mqF.rf {μ : gMem} : mqF μ μ := ⟨fun _ _ _ _ => rfl, fun _ _ _ _ _ => rfl, fun _ _ _ _ _ => rfl, fun _ _ => rfl, fun _ _ _ _ => rfl, rfl, fun _ _ _ _ => rfl⟩
theorem mqF.tr {μ μ1 μ2 : gMem} (h : mqF μ μ1) (h2 : mqF μ1 μ2) : mqF μ μ2 := ⟨fun k j a b => (h2.1 k j a b).trans (h.1 k j a b), fun k a b z c => (h2.2.1 k a b z c).trans (h.2.1 k a b z c), fun k a b z c => (h2.2.2.1 k a b z c).trans (h.2.2.1 k a b z c), fun z a => (h2.2.2.2.1 z a).trans (h.2.2.2.1 z a), fun j a b c => (h2.2.2.2.2.1 j a b c).trans (h.2.2.2.2.1 j a b c), h2.2.2.2.2.2.1.trans h.2.2.2.2.2.1, fun k j a b => (h2.2.2.2.2.2.2 k j a b).trans (h.2.2.2.2.2.2 k j a b)⟩
theorem mwFr.mq {μ μ' : gMem} (h : mwFr 1 μ μ') : mqF μ μ' := ⟨fun k j a b => h.1 k j (by omega) b, fun k a b z c => h.2.1 k a b z (by omega), h.2.2.1, fun z _ => by rw [h.1 751 0 (by omega) (by omega)], fun j _ b c => h.2.2.2.2.1 j b c, h.2.2.2.2.2.1, h.2.2.2.2.2.2⟩
theorem mqF.put {μ μ1 : gMem} {k i j : Nat} {v : Int32} (h : mqF μ μ1) (hk : (740 ≤ k ∧ k ≤ 750 ∧ i = 0 ∧ 5 ≤ j ∧ j < 10) ∨ (737 ≤ k ∧ k ≤ 739 ∧ i = 0 ∧ j = 1) ∨ (k = 751 ∧ i = 0 ∧ 30 ≤ j ∧ j < 60) ∨ (k = 10 ∧ i = 0 ∧ (j = 0 ∨ j = 32 ∨ j = 48))) : mqF μ (gsI μ1 k i j v) := by
  refine h.tr ⟨fun k' j' a b => gsI_off (by omega), fun k' a b z c => ?_, fun k' a b z c => ?_, fun z a => ?_, fun j' a b c => ?_, rfl, fun _ _ _ _ => rfl⟩ <;> rw [gsI_at, if_neg (by omega)]
/-- what a question to the reference changes -/
def mvF (μ μ' : gMem) : Prop := (∀ k j, ¬ (737 ≤ k ∧ k ≤ 751 ∧ j = 0) → ¬ (k = 10 ∧ j = 0) → ¬ k = 757 → ¬ k = 758 → ¬ k = 766 → μ'.1 k j = μ.1 k j) ∧ (∀ k, 740 ≤ k → k ≤ 750 → ∀ z, ¬ (5 ≤ z ∧ z < 10) → μ'.1 k 0 z = μ.1 k 0 z) ∧ (∀ k, 737 ≤ k → k ≤ 739 → ∀ z, ¬ z = 1 → μ'.1 k 0 z = μ.1 k 0 z) ∧ (∀ z, ¬ (30 ≤ z ∧ z < 60) → μ'.1 751 0 z = μ.1 751 0 z) ∧ (∀ j, ¬ j = 0 → ¬ j = 32 → ¬ j = 48 → μ'.1 10 0 j = μ.1 10 0 j) ∧ μ'.2.2 = μ.2.2 ∧ ∀ k j, ¬ (k = 734 ∧ j = 0) → ¬ (k = 735 ∧ j = 0) → μ'.2.1 k j = μ.2.1 k j
theorem mvF.rf {μ : gMem} : mvF μ μ := ⟨fun _ _ _ _ _ _ _ => rfl, fun _ _ _ _ _ => rfl, fun _ _ _ _ _ => rfl, fun _ _ => rfl, fun _ _ _ _ => rfl, rfl, fun _ _ _ _ => rfl⟩
theorem mvF.tr {μ μ1 μ2 : gMem} (h : mvF μ μ1) (h2 : mvF μ1 μ2) : mvF μ μ2 := ⟨fun k j a b c e f => (h2.1 k j a b c e f).trans (h.1 k j a b c e f), fun k a b z c => (h2.2.1 k a b z c).trans (h.2.1 k a b z c), fun k a b z c => (h2.2.2.1 k a b z c).trans (h.2.2.1 k a b z c), fun z a => (h2.2.2.2.1 z a).trans (h.2.2.2.1 z a), fun j a b c => (h2.2.2.2.2.1 j a b c).trans (h.2.2.2.2.1 j a b c), h2.2.2.2.2.2.1.trans h.2.2.2.2.2.1, fun k j a b => (h2.2.2.2.2.2.2 k j a b).trans (h.2.2.2.2.2.2 k j a b)⟩
theorem mqF.v {μ μ' : gMem} (h : mqF μ μ') : mvF μ μ' := ⟨fun k j a b _ _ _ => h.1 k j a b, h.2⟩
theorem mvF.put {μ μ1 : gMem} {k i j : Nat} {v : Int32} (h : mvF μ μ1) (hk : k = 757 ∨ k = 758 ∨ k = 766) : mvF μ (gsI μ1 k i j v) := by
  refine h.tr ⟨fun k' j' a b c e f => gsI_off (by omega), fun k' a b z c => ?_, fun k' a b z c => ?_, fun z a => ?_, fun j' a b c => ?_, rfl, fun _ _ _ _ => rfl⟩ <;> rw [gsI_at, if_neg (by omega)]
theorem mcp_mq {μ : gMem} : mqF μ (mcp μ 1 0) := by
  refine ⟨fun k j a b => funext fun z => mlay_off (by omega) (by omega) (by omega), fun k a b z c => mlay_off (by omega) (by omega) (by omega), fun k a b z c => mlay_off (by omega) (by omega) (by omega), fun z a => mlay_off (by omega) (by omega) (by omega), fun j a b c => mlay_off (by omega) (by omega) (by omega), rfl, fun _ _ _ _ => rfl⟩
theorem mcp_5 {μ : gMem} {a b k p : Nat} (h1 : 740 ≤ k) (h2 : k ≤ 750) (hp : p < 5) : (mcp μ a b).1 k 0 (5 * a + p) = μ.1 k 0 (5 * b + p) := by
  show (if (0 : Nat) = 0 ∧ 737 ≤ k ∧ k ≤ 739 ∧ 5 * a + p = a then _ else if (0 : Nat) = 0 ∧ 740 ≤ k ∧ k ≤ 750 ∧ 5 * a ≤ 5 * a + p ∧ 5 * a + p < 5 * a + 5 then _ else _) = _
  rw [if_neg (show ¬ ((0 : Nat) = 0 ∧ 737 ≤ k ∧ k ≤ 739 ∧ 5 * a + p = a) by omega), if_pos (by omega), Nat.add_sub_cancel_left]
theorem mcp_3 {μ : gMem} {a b k : Nat} (h1 : 737 ≤ k) (h2 : k ≤ 739) : (mcp μ a b).1 k 0 a = μ.1 k 0 b := by
  show (if (0 : Nat) = 0 ∧ 737 ≤ k ∧ k ≤ 739 ∧ a = a then _ else _) = _
  rw [if_pos ⟨rfl, h1, h2, rfl⟩]
theorem mlay_T {μ : gMem} {D3 : Nat → Int32} {D5 : Nat → Nat → Int32} {DT : Nat → Int32} {a j c k q : Nat} (hk : k = 751) (hq : q < c) : (mlay μ D3 D5 DT a j c).1 k 0 (30 * a + q) = DT q := by
  show (if (0 : Nat) = 0 ∧ 737 ≤ k ∧ k ≤ 739 ∧ 30 * a + q = a then D3 k else if (0 : Nat) = 0 ∧ 740 ≤ k ∧ k ≤ 750 ∧ 5 * a ≤ 30 * a + q ∧ 30 * a + q < 5 * a + j then D5 k (30 * a + q - 5 * a) else if (0 : Nat) = 0 ∧ k = 751 ∧ 30 * a ≤ 30 * a + q ∧ 30 * a + q < 30 * a + c then DT (30 * a + q - 30 * a) else μ.1 k 0 (30 * a + q)) = _
  rw [if_neg (show ¬ ((0 : Nat) = 0 ∧ 737 ≤ k ∧ k ≤ 739 ∧ 30 * a + q = a) by omega), if_neg (show ¬ ((0 : Nat) = 0 ∧ 740 ≤ k ∧ k ≤ 750 ∧ 5 * a ≤ 30 * a + q ∧ 30 * a + q < 5 * a + j) by omega), if_pos (by omega), Nat.add_sub_cancel_left]
theorem mcp_t {μ : gMem} {a b q : Nat} (hq : q < 30) : (mcp μ a b).1 751 0 (30 * a + q) = μ.1 751 0 (30 * b + q) := mlay_T rfl hq
theorem mcp_off {μ : gMem} {a b k i : Nat} (h : ¬ (737 ≤ k ∧ k ≤ 751 ∧ i = 0)) : (mcp μ a b).1 k i = μ.1 k i := funext fun z => mlay_off (by omega) (by omega) (by omega)
theorem mcp_wM {μ : gMem} {n a b e dy : Nat} {A : wEnv} {S : pplS} (h : wM μ n b A e S dy) : wM (mcp μ a b) n a A e S dy := by
  obtain ⟨hT, hA, ⟨hg, hpl, hon⟩, hps, hr, hS, hdy⟩ := h
  have g : ∀ k, k < 737 → (mcp μ a b).1 k 0 = μ.1 k 0 := fun k hk => mcp_off (by omega)
  have h5 := hA.1
  refine ⟨hT.of (g _ (by omega)) (g _ (by omega)) (g _ (by omega)) (g _ (by omega)) (g _ (by omega)) (g _ (by omega)), hA, ⟨?_, ?_, hon⟩, fun p hp => ?_, fun k hk => ⟨?_, ?_⟩, hS, ?_⟩
  · unfold gnM; rw [g 10 (by omega)]; exact hg
  · unfold plM; rw [g 10 (by omega)]; exact hpl
  · have key : ∀ k, k < 737 → prM (mcp μ a b) a p k n = prM μ b p k n := by
      intro k hk
      unfold prM
      rw [g 10 (by omega), g k hk]
      rw [psum_cong (g' := fun q => μ.1 751 0 (30 * b + 6 * p + q)) (f' := μ.1 k 0) n (fun q hq => ⟨rfl, ?_⟩)]
      have := hT.2.2.1
      rw [Nat.add_assoc, Nat.add_assoc]
      exact mcp_t (by omega)
    rw [key 713 (by omega), key 714 (by omega)]
    exact hps p hp
  · rw [← (hr k hk).1]
    exact peM_cong (fun z h1 h2 => mcp_5 h1 h2 (by omega)) (by rw [g 10 (by omega)])
  · rw [mcp_5 (by omega) (by omega) (by omega)]
    exact (hr k hk).2
  · rw [mcp_3 (by omega) (by omega)]
    exact hdy
theorem mvF.tM {μ μ' : gMem} {n : Nat} {A : wEnv} (hF : mvF μ μ') (hT : tM μ n A) : tM μ' n A := by
  have g : ∀ k, k < 737 → ¬ k = 10 → μ'.1 k 0 = μ.1 k 0 := fun k hk h => hF.1 k 0 (by omega) (by omega) (by omega) (by omega) (by omega)
  exact hT.of (g _ (by omega) (by omega)) (g _ (by omega) (by omega)) (g _ (by omega) (by omega)) (g _ (by omega) (by omega)) (g _ (by omega) (by omega)) (g _ (by omega) (by omega))
theorem mvF.wM {μ μ' : gMem} {n e dy : Nat} {A : wEnv} {S : pplS} (hF : mvF μ μ') (h : wM μ n 0 A e S dy) : wM μ' n 0 A e S dy := by
  obtain ⟨hT, hA, ⟨hg, hpl, hon⟩, hps, hr, hS, hdy⟩ := h
  have g : ∀ k, k < 737 → ¬ k = 10 → μ'.1 k 0 = μ.1 k 0 := fun k hk h => hF.1 k 0 (by omega) (by omega) (by omega) (by omega) (by omega)
  have h5 := hA.1
  have g51 := hF.2.2.2.2.1 51 (by omega) (by omega) (by omega)
  refine ⟨hF.tM hT, hA, ⟨?_, ?_, hon⟩, fun p hp => ?_, fun k hk => ⟨?_, ?_⟩, hS, ?_⟩
  · unfold gnM; rw [g51, hF.2.2.2.2.1 52 (by omega) (by omega) (by omega)]; exact hg
  · unfold plM; rw [g51]; exact hpl
  · have key : ∀ k, k < 737 → ¬ k = 10 → prM μ' 0 p k n = prM μ 0 p k n := by
      intro k hk hk2
      unfold prM
      rw [g51, g k hk hk2]
      rw [psum_cong (g' := fun q => μ.1 751 0 (30 * 0 + 6 * p + q)) (f' := μ.1 k 0) n (fun q hq => ⟨rfl, ?_⟩)]
      have := hT.2.2.1
      exact hF.2.2.2.1 _ (by omega)
    rw [key 713 (by omega) (by omega), key 714 (by omega) (by omega)]
    exact hps p hp
  · rw [← (hr k hk).1]
    exact peM_cong (fun z h1 h2 => hF.2.1 z h1 h2 _ (by omega)) g51
  · rw [hF.2.1 747 (by omega) (by omega) _ (by omega)]
    exact (hr k hk).2
  · rw [hF.2.2.1 737 (by omega) (by omega) _ (by omega)]
    exact hdy
theorem mqF.tM {μ μ' : gMem} {n : Nat} {A : wEnv} (hF : mqF μ μ') (hT : tM μ n A) : tM μ' n A := hF.v.tM hT
theorem mqF.wM {μ μ' : gMem} {n e dy : Nat} {A : wEnv} {S : pplS} (hF : mqF μ μ') (h : wM μ n 0 A e S dy) : wM μ' n 0 A e S dy := hF.v.wM h
/-- the reference as it is now -/
def nM (μ : gMem) (n : Nat) (A : wEnv) (S : pplS) (dy : Nat) : Prop := wM μ n 0 A 0 S dy ∧ pln A ∧ dy ≤ 9900 ∧ μ.1 10 0 51 = 0 ∧ μ.1 10 0 52 = -1
theorem nM.mv {μ μ' : gMem} {n dy : Nat} {A : wEnv} {S : pplS} (h : nM μ n A S dy) (hF : mvF μ μ') : nM μ' n A S dy := ⟨hF.wM h.1, h.2.1, h.2.2.1, (hF.2.2.2.2.1 51 (by omega) (by omega) (by omega)).trans h.2.2.2.1, (hF.2.2.2.2.1 52 (by omega) (by omega) (by omega)).trans h.2.2.2.2⟩
theorem nM.mq {μ μ' : gMem} {n dy : Nat} {A : wEnv} {S : pplS} (h : nM μ n A S dy) (hF : mqF μ μ') : nM μ' n A S dy := ⟨hF.wM h.1, h.2.1, h.2.2.1, (hF.2.2.2.2.1 51 (by omega) (by omega) (by omega)).trans h.2.2.2.1, (hF.2.2.2.2.1 52 (by omega) (by omega) (by omega)).trans h.2.2.2.2⟩
theorem nM.men {μ : gMem} {n dy : Nat} {A : wEnv} {S : pplS} (h : nM μ n A S dy) : eMen A ≤ 5 := h.1.2.1.1
/-- row k of now; slot 10 too, since nothing is tried -/
theorem nM.row {μ : gMem} {n dy : Nat} {A : wEnv} {S : pplS} (h : nM μ n A S dy) {k : Nat} (hk : k < eMen A) {j : Nat} (hj : j ≤ 10) : μ.1 (mkk j) 0 k = S k j := by
  have h1 := (h.1.2.2.2.2.1 k hk).1
  rw [Nat.mul_zero, Nat.zero_add] at h1
  rw [← h1]
  unfold peM bnM
  by_cases h10 : j = 10
  · rw [if_pos h10, if_neg (by rw [h.2.2.2.1]; decide), h10]
    rfl
  · rw [if_neg h10]
    unfold PM
    rw [if_pos hj]
/-- row k of the run, but for slot 10 -/
theorem wM.row {μ : gMem} {n m e dy : Nat} {A : wEnv} {S : pplS} (h : wM μ n m A e S dy) {k : Nat} (hk : k < eMen A) {j : Nat} (hj : j < 10) : μ.1 (mkk j) 0 (5 * m + k) = S k j := by
  rw [← (h.2.2.2.2.1 k hk).1]
  unfold peM PM
  rw [if_neg (by omega), if_pos (by omega)]
def wtM (μ : gMem) : Int32 := wtG (odM μ)
theorem wtM.mq {μ μ' : gMem} (hF : mqF μ μ') : wtM μ' = wtM μ := by
  unfold wtM odM
  rw [hF.2.2.2.2.1 51 (by omega) (by omega) (by omega), hF.1 707 0 (by omega) (by omega)]
section MR
variable {l : Launch} {D : gD} {d : Nat} {μ : gMem} {n e dy : Nat} {A : wEnv} {S : pplS}
/-- a day of the run, without numbers -/
theorem d_run (hd : 5 ≤ d) (h : wM μ n 1 A e S dy) (he : e ≤ 2000) (hdy : dy < 100000) : Ctr l D d yX10_passes cX10_passes 6 none [.ref (D.2.2 10 0), .int (1 : Int32), .int (0 : Int32)] μ (pV (fun μ' => mqF μ μ' ∧ wM μ' n 1 A e (stp A (wtM μ) dy S) (dy + 1) ∧ μ'.1 10 0 48 = (if dueS A dy then wnr A (wtM μ) dy S else -1))) := by
  refine (d_X10_passes (m := 1) (b := 0) hd (by decide) h he hdy (wtM μ) (by rw [if_neg (fun z => z.1 rfl)]; rfl)).mono ?_
  rintro r μ' ⟨⟨rfl⟩, hF, hw, -, -, h48⟩
  exact ⟨rfl, hF.mq, hw, h48⟩
theorem runs_loop {Γ : gC} {q : gMem → Prop} {m : Nat} {μ0 : gMem} (hd : 6 ≤ d) (he : e ≤ 2000) (hm : m < 2 ^ 31) (hdm : dy + m ≤ 100000) (hq : ∀ μ', mqF μ0 μ' → wM μ' n 1 A e (runF A (wtM μ0) m dy S) (dy + m) → q μ') :
    ∀ (c j : Nat) (μ : gMem), j + c = m → mqF μ0 μ → wM μ n 1 A e (runF A (wtM μ0) j dy S) (dy + j) → pt_X10_runs_1 l D d q Γ 0 (nI m) (nI j) μ := by
  intro c
  induction c with
  | zero =>
    intro j μ hj hF hw
    obtain rfl : j = m := by omega
    refine bl_X10_runs_1 (by decide) ⟨fun _ => hq μ hF hw, fun h => ?_⟩
    exact absurd (nI_le (Nat.le_refl _) (by omega)) h
  | succ c ih =>
    intro j μ hj hF hw
    refine bl_X10_runs_1 (by decide) ⟨fun h => absurd h (nI_ge (by omega) (by omega)), fun _ => ⟨5, _, by omega, d_run (by omega) hw he (by omega), ?_⟩⟩
    rintro μ1 ⟨hF1, hw1, -⟩ _ rfl
    rw [nI_1]
    refine ih (j + 1) μ1 (by omega) (hF.tr hF1) ?_
    rw [wtM.mq hF] at hw1
    exact hw1
theorem c_X10_runs {m : Nat} {x1 : Int32} (hx : x1 = nI m) (hd : 6 ≤ d) (h : wM μ n 0 A e S dy) (he : e ≤ 2000) (hm : m < 2 ^ 31) (hdm : dy + m ≤ 100000) : Ctr l D d yX10_runs cX10_runs 3 none [.ref (D.2.2 10 0), .int x1] μ (pV (fun μ' => mqF μ μ' ∧ wM μ' n 1 A e (runF A (wtM μ) m dy S) (dy + m))) := by
  subst hx
  refine en_X10_runs (fun Γ => bl_X10_runs_0 (by decide) ⟨0, _, by omega, c_X10_copies (a := 1) (b := 0) (by decide) (by decide) (by decide), ?_⟩)
  rintro _ rfl _ rfl
  refine runs_loop (μ0 := mcp μ 1 0) (S := S) (A := A) hd he hm hdm ?_ m 0 _ (by omega) mqF.rf (mcp_wM h)
  intro μ' hF hw
  rw [wtM.mq mcp_mq] at hw
  exact ⟨mcp_mq.tr hF, hw⟩
/-- on to the next pot -/
theorem winsFrom_loop {Γ : gC} {q : Int32 → gMem → Prop} {μ0 : gMem} (hd : 6 ≤ d) (hA : okA A) (he : e ≤ 2000) (hdm : dy + 14 ≤ 100000) (hne : ∀ dy S, ¬ wnr A (wtM μ0) dy S = -1) (hq : ∀ μ', mqF μ0 μ' → wM μ' n 1 A e (runF A (wtM μ0) (dtp A dy) dy S) (dy + dtp A dy) → q (nxt A (wtM μ0) dy S) μ') :
    ∀ (c j : Nat) (μ : gMem), j + c + 1 = dtp A dy → mqF μ0 μ → wM μ n 1 A e (runF A (wtM μ0) j dy S) (dy + j) → pt_X10_winsFrom_0 l D d q Γ 0 μ := by
  have hdt := dtp_pos (A := A) (dy := dy) hA.2.1
  have hb := hA.2.2.1
  intro c
  induction c with
  | zero =>
    intro j μ hj hF hw
    refine bl_X10_winsFrom_0 (by decide) ⟨5, _, by omega, d_run (by omega) hw he (by omega), ?_⟩
    rintro μ1 ⟨hF1, hw1, h48⟩
    rw [wtM.mq hF] at hw1 h48
    have hdue := dtp_due (A := A) (dy := dy) hA.2.1
    rw [show dtp A dy - 1 = j by omega] at hdue
    rw [if_pos hdue] at h48
    rw [h48]
    refine ⟨fun z => absurd z (hne _ _), fun _ => ?_⟩
    have e1 : wnr A (wtM μ0) (dy + j) (runF A (wtM μ0) j dy S) = nxt A (wtM μ0) dy S := by
      unfold nxt
      rw [show dtp A dy - 1 = j by omega]
    rw [e1]
    refine hq μ1 (hF.tr hF1) ?_
    rw [show dtp A dy = j + 1 by omega]
    exact hw1
  | succ c ih =>
    intro j μ hj hF hw
    refine bl_X10_winsFrom_0 (by decide) ⟨5, _, by omega, d_run (by omega) hw he (by omega), ?_⟩
    rintro μ1 ⟨hF1, hw1, h48⟩
    rw [wtM.mq hF] at hw1 h48
    rw [if_neg (dtp_not hA.2.1 (by omega))] at h48
    rw [h48]
    exact ⟨fun _ => ih (j + 1) μ1 (by omega) (hF.tr hF1) hw1, fun z => absurd rfl z⟩
theorem c_X10_winsFrom (hd : 6 ≤ d) (h : wM μ n 1 A e S dy) (he : e ≤ 2000) (hdm : dy + 14 ≤ 100000) (hne : ∀ dy S, ¬ wnr A (wtM μ) dy S = -1) : Ctr l D d yX10_winsFrom cX10_winsFrom 1 (some .int) [.ref (D.2.2 10 0)] μ (pI (fun v μ' => v = nxt A (wtM μ) dy S ∧ mqF μ μ' ∧ wM μ' n 1 A e (runF A (wtM μ) (dtp A dy) dy S) (dy + dtp A dy))) := by
  have hA := h.2.1
  have hdt := dtp_pos (A := A) (dy := dy) hA.2.1
  refine en_X10_winsFrom (fun Γ => winsFrom_loop (μ0 := μ) (S := S) (A := A) hd hA he hdm hne ?_ (dtp A dy - 1) 0 μ (by omega) mqF.rf h)
  exact fun μ' a b => ⟨rfl, a, b⟩
end MR
/-- someone leads where one is there -/
theorem ldF_some {f : Nat → Int32} : ∀ (n i : Nat) (b : Option Nat), i + n < 2 ^ 31 → (0 < n ∨ ∃ k, b = some k) → ∃ k, ldF f (-1) n i b = some k := by
  intro n
  induction n with
  | zero =>
    intro i b _ h
    rcases h with h | ⟨k, hk⟩
    · omega
    · exact ⟨k, hk⟩
  | succ n ih =>
    intro i b hi h
    simp only [ldF, if_neg (nI_nm1 (show i < 2 ^ 31 by omega))]
    refine ih (i + 1) _ (by omega) (Or.inr ?_)
    cases b with
    | none => exact ⟨i, rfl⟩
    | some k =>
      simp only
      split
      · exact ⟨k, rfl⟩
      · exact ⟨i, rfl⟩
theorem wnr_some {A : wEnv} (hp : pln A) (hA : okA A) (hm : 0 < eMen A) (wet : Int32) (dy : Nat) (S : pplS) : ∃ k, k < eMen A ∧ wnr A wet dy S = nI k := by
  have hg : eGone A = -1 := by show A.2.2.2.2.1 = -1; rw [hp]
  have h5 := hA.1
  obtain ⟨k, hk⟩ := ldF_some (f := fun z => midS A wet dy S z 4) (eMen A) 0 none (by omega) (Or.inl hm)
  have hr := ldF_rng (fun z => midS A wet dy S z 4) (-1) (eMen A) 0 none (fun k hk => by cases hk) k hk
  refine ⟨k, by omega, ?_⟩
  unfold wnr
  rw [hg, hk]
  rfl
theorem wnr_ne {A : wEnv} (hp : pln A) (hA : okA A) (hm : 0 < eMen A) (wet : Int32) (dy : Nat) (S : pplS) : ¬ wnr A wet dy S = -1 := by
  obtain ⟨k, hk, e⟩ := wnr_some hp hA hm wet dy S
  have := hA.1
  rw [e]
  exact nI_nm1 (by omega)
