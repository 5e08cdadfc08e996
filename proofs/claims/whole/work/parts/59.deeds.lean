/-! deeds: the fewest minutes -/
def dgt (m w q : Nat) : Nat := w / 5 ^ (m - 1 - q) % 5
def amF (m w : Nat) (f : Nat → Int32) : Int32 := psum (fun q => nI (dgt m w q)) f m
abbrev wayP (goal bp : Int32) (m : Nat) (f : Nat → Int32) (w : Nat) : Prop := ¬ bp + amF m w f < goal
/-- the best way so far and its minutes -/
def wayL (goal bp : Int32) (m : Nat) (f g : Nat → Int32) : Nat → Nat → Int32 → Int32 → Int32 × Int32
  | 0, _, b, le => (b, le)
  | c + 1, w, b, le => if wayP goal bp m f w ∧ (b = -1 ∨ amF m w g < le) then wayL goal bp m f g c (w + 1) (nI w) (amF m w g) else wayL goal bp m f g c (w + 1) b le
def deeG (goal bp : Int32) (m : Nat) (f g : Nat → Int32) (x2 : Int32) : Int32 := if (wayL goal bp m f g (5 ^ m) 0 (-1) 0).1 = -1 then -3 else if x2 = 4 then (wayL goal bp m f g (5 ^ m) 0 (-1) 0).2 else nI (dgt m (ix (wayL goal bp m f g (5 ^ m) 0 (-1) 0).1) (ix x2))
def deeF (A : wEnv) (S : pplS) (n : Nat) (f g : Nat → Int32) (x1 x2 : Int32) : Int32 := if isM (eMen A) x1 ∧ inR x2 0 4 then (if x2.toInt < 4 ∧ (n : Int) ≤ x2.toInt then -2 else deeG (S (ix x1) 0) (S (ix x1) 1 + ePc A (ix x1)) (min n 4) f g x2) else -1
theorem amF_rng {m w : Nat} {f : Nat → Int32} (hm : m ≤ 4) (hf : ∀ z, z < m → inR (f z) 0 20) : 0 ≤ (amF m w f).toInt ∧ (amF m w f).toInt ≤ 320 := by
  have h : ∀ k, k ≤ m → 0 ≤ (psum (fun q => nI (dgt m w q)) f k).toInt ∧ (psum (fun q => nI (dgt m w q)) f k).toInt ≤ 80 * k := by
    intro k
    induction k with
    | zero => intro _; rw [psum, i32_0]; omega
    | succ k ih =>
      intro hk
      have h1 := ih (by omega)
      obtain ⟨b1, b2⟩ := hf k (by omega)
      have hd : dgt m w k < 5 := Nat.mod_lt _ (by decide)
      have a : (nI (dgt m w k)).toInt = (dgt m w k : Int) := nI_toInt (by omega)
      have m1 : (nI (dgt m w k)).toInt * (f k).toInt ≤ 4 * 20 := Int.mul_le_mul (by omega) b2 b1 (by omega)
      have m0 : 0 ≤ (nI (dgt m w k)).toInt * (f k).toInt := Int.mul_nonneg (by omega) b1
      have e1 : (nI (dgt m w k) * f k).toInt = (nI (dgt m w k)).toInt * (f k).toInt := fb_mulI (by omega) (by omega)
      show 0 ≤ (psum (fun q => nI (dgt m w q)) f k + nI (dgt m w k) * f k).toInt ∧ (psum (fun q => nI (dgt m w q)) f k + nI (dgt m w k) * f k).toInt ≤ _
      rw [fb_addI (by rw [e1]; omega) (by rw [e1]; omega), e1]
      omega
  have := h m (Nat.le_refl m)
  unfold amF
  omega
theorem p5_pos (k : Nat) : 0 < 5 ^ k := Nat.pow_pos (by decide)
theorem p5_le {k : Nat} (h : k ≤ 4) : 5 ^ k ≤ 625 := Nat.pow_le_pow_right (n := 5) (by decide) h
section DD
variable {l : Launch} {D : gD} {d : Nat} {μ : gMem} {x0 x1 x2 x3 : Int32}
theorem amount_loop {Γ : gC} {q : Int32 → gMem → Prop} {k2 i2 L m w : Nat} (hk1 : gsh k2 = (1, (gsh k2).2.1, 0)) (hi1 : i2 < gkn k2) (hL : (gsh k2).2.1 = L) (hL2 : L < 2 ^ 31) (hm : m ≤ L) (hw : w < 1000) {f : Nat → Int32} (hf : ∀ z, z < m → μ.1 k2 i2 z = f z) (hq : q (amF m w f) μ) :
    ∀ (j : Nat) (a : Int32), j ≤ m → a + psum (fun q => nI (dgt m w q)) f j = amF m w f → pt_X9_amount_1 l D d q Γ k2 i2 (nI (w / 5 ^ (m - j))) a (nI j - 1) μ := by
  intro j
  induction j with
  | zero =>
    intro a _ ha
    refine bl_X9_amount_1 hk1 hi1 ⟨fun _ => ?_, fun z => absurd (by decide) z⟩
    rw [psum, Int32.add_zero] at ha
    rw [ha]
    exact hq
  | succ j ih =>
    intro a hj ha
    have hle : w / 5 ^ (m - (j + 1)) ≤ w := Nat.div_le_self _ _
    rw [nI_pred]
    refine bl_X9_amount_1 hk1 hi1 ⟨fun z => absurd z (nI_pos (by omega)), fun _ => ⟨j, by omega, by omega, rfl, ?_⟩⟩
    rw [r5 (by omega), d5 (by omega), hf j (by omega)]
    rintro _ rfl _ rfl _ rfl
    rw [m1s]
    have e1 : w / 5 ^ (m - (j + 1)) / 5 = w / 5 ^ (m - j) := by
      rw [Nat.div_div_eq_div_mul, ← Nat.pow_succ, show (m - (j + 1)).succ = m - j by omega]
    have e2 : w / 5 ^ (m - (j + 1)) % 5 = dgt m w j := by
      unfold dgt
      rw [show m - 1 - j = m - (j + 1) by omega]
    rw [e1, e2]
    refine ih _ (by omega) ?_
    rw [← ha, psum, Int32.add_assoc, Int32.add_comm (nI (dgt m w j) * f j)]
theorem c_X9_amount {k2 i2 L m w : Nat} (e0 : x0 = nI w) (e1 : x1 = nI m) (hk1 : gsh k2 = (1, (gsh k2).2.1, 0)) (hi1 : i2 < gkn k2) (hL : (gsh k2).2.1 = L) (hL2 : L < 2 ^ 31) (hm : m ≤ L) (hw : w < 1000) {f : Nat → Int32} (hf : ∀ z, z < m → μ.1 k2 i2 z = f z) : Ctr l D d yX9_amount cX9_amount 6 (some .int) [.int x0, .int x1, .ref (D.2.2 k2 i2)] μ (pI (fun v μ' => v = amF m w f ∧ μ' = μ)) := by
  subst e0 e1
  refine en_X9_amount (fun Γ => bl_X9_amount_0 hk1 hi1 ?_)
  rintro _ rfl _ rfl _ rfl
  have := amount_loop (l := l) (D := D) (d := d) (Γ := Γ) (μ := μ) (q := fun v μ' => v = amF m w f ∧ μ' = μ) (w := w) hk1 hi1 hL hL2 hm hw hf ⟨rfl, rfl⟩ m 0 (Nat.le_refl m) (by rw [Int32.zero_add]; rfl)
  rw [Nat.sub_self, Nat.pow_zero, Nat.div_one] at this
  exact this
theorem fives_loop {Γ : gC} {q : Int32 → gMem → Prop} {k : Nat} (hk : k ≤ 4) (hq : q (nI (5 ^ k)) μ) : ∀ (c j : Nat), j + c = k → pt_X10_fives_1 l D d q Γ (nI k) (nI (5 ^ j)) (nI j) μ := by
  intro c
  induction c with
  | zero =>
    intro j hj
    obtain rfl : j = k := by omega
    exact bl_X10_fives_1 ⟨fun _ => hq, fun z => absurd (nI_le (Nat.le_refl _) (by omega)) z⟩
  | succ c ih =>
    intro j hj
    refine bl_X10_fives_1 ⟨fun z => absurd z (nI_ge (by omega) (by omega)), fun _ => ?_⟩
    rintro _ rfl _ rfl
    rw [nI_1, show (5 : Int32) = nI 5 from rfl, pk_mul, ← Nat.pow_succ]
    exact ih (j + 1) (by omega)
theorem c_X10_fives {k : Nat} (hx : x0 = nI k) (hk : k ≤ 4) : Ctr l D d yX10_fives cX10_fives 3 (some .int) [.int x0] μ (pI (fun v μ' => v = nI (5 ^ k) ∧ μ' = μ)) := by
  subst hx
  refine en_X10_fives (fun Γ => bl_X10_fives_0 ?_)
  rintro _ rfl _ rfl
  exact fives_loop hk ⟨rfl, rfl⟩ k 0 (by omega)
end DD
section DC
variable {l : Launch} {D : gD} {d : Nat} {μ : gMem} {t n dy : Nat} {A : wEnv} {S : pplS} {x1 x2 x3 : Int32}
theorem fewest_5 {Γ : gC} {q : Int32 → gMem → Prop} {m w : Nat} {le : Int32} {μ0 : gMem} (hm : m ≤ 4) (hw : w < 1000) (hq : ∀ μ', rowF 650 μ0 μ' → (∀ z, z < m → μ'.1 650 0 z = nI (dgt m w z)) → μ'.1 650 0 4 = le → q 1 μ') :
    ∀ (j : Nat) (μ : gMem), j ≤ m → rowF 650 μ0 μ → (∀ z, j ≤ z → z < m → μ.1 650 0 z = nI (dgt m w z)) → pt_X9_findFewest_5 l D d q Γ 0 le (nI (w / 5 ^ (m - j))) (nI j - 1) μ := by
  intro j
  induction j with
  | zero =>
    intro μ _ hF hz
    refine bl_X9_findFewest_5 (by decide) ⟨fun _ => ?_, fun z => absurd (by decide) z⟩
    rintro μ1 e1
    refine hq μ1 (by rw [e1]; exact hF.put _ _) (fun z hz2 => ?_) (by rw [e1, gsI_s])
    rw [e1, gsI_at, if_neg (by omega)]
    exact hz z (by omega) hz2
  | succ j ih =>
    intro μ hj hF hz
    have hle : w / 5 ^ (m - (j + 1)) ≤ w := Nat.div_le_self _ _
    rw [nI_pred]
    refine bl_X9_findFewest_5 (by decide) ⟨fun z => absurd z (nI_pos (by omega)), fun _ => ⟨j, by omega, rfl, ?_⟩⟩
    rw [r5 (by omega), d5 (by omega)]
    rintro μ1 e1' _ rfl _ rfl
    rw [m1s]
    have e1 : w / 5 ^ (m - (j + 1)) / 5 = w / 5 ^ (m - j) := by
      rw [Nat.div_div_eq_div_mul, ← Nat.pow_succ, show (m - (j + 1)).succ = m - j by omega]
    have e2 : w / 5 ^ (m - (j + 1)) % 5 = dgt m w j := by
      unfold dgt
      rw [show m - 1 - j = m - (j + 1) by omega]
    rw [e1]
    rw [e2] at e1'
    refine ih μ1 (by omega) (by rw [e1']; exact hF.put _ _) (fun z h1 h2 => ?_)
    rw [e1', gsI_at]
    by_cases ez : z = j
    · subst ez
      rw [if_pos ⟨rfl, rfl, rfl⟩]
    · rw [if_neg (by omega)]
      exact hz z (by omega) h2
theorem fewest_2 {Γ : gC} {q : Int32 → gMem → Prop} {m : Nat} {f g : Nat → Int32} {goal bp lk : Int32} {v : Int32 × Int32} (hd : 1 ≤ d) (ht : t < 2) (h0 : μ.2.2 0 = t) (hm : m ≤ 4) (hf : ∀ z, z < m → μ.1 520 t z = f z ∧ inR (f z) 0 20) (hg : ∀ z, z < m → μ.1 521 t z = g z ∧ inR (g z) 0 20) (hlk : ∀ w, amF m w f < lk ↔ ¬ wayP goal bp m f w)
    (hq0 : v.1 = -1 → q 0 μ) (hq1 : ∀ μ', ¬ v.1 = -1 → rowF 650 μ μ' → (∀ z, z < m → μ'.1 650 0 z = nI (dgt m (ix v.1) z)) → μ'.1 650 0 4 = v.2 → q 1 μ') :
    ∀ (c w : Nat) (b le : Int32), w + c = 5 ^ m → (b = -1 ∨ (∃ k, k < 625 ∧ b = nI k)) → wayL goal bp m f g c w b le = v → pt_X9_findFewest_2 l D d q Γ 0 (nI (5 ^ m)) (nI m) lk b le (nI w) μ := by
  have h625 := p5_le hm
  intro c
  induction c with
  | zero =>
    intro w b le hw hb hv
    rw [wayL] at hv
    have hv1 : v.1 = b := by rw [← hv]
    have hv2 : v.2 = le := by rw [← hv]
    refine bl_X9_findFewest_2 (by decide) ⟨fun _ => ⟨fun z => ?_, fun z => hq0 (by rw [hv1]; exact z)⟩, fun z => absurd (nI_le (by omega) (by omega)) z⟩
    rintro x7 e7 _ rfl
    obtain ⟨k, hk, ek⟩ : ∃ k, k < 625 ∧ b = nI k := by
      rcases hb with w | w
      · exact absurd w z
      · exact w
    rw [e7]
    have hix : ix v.1 = k := by rw [hv1]; exact ix_eq ek (by omega)
    have := fewest_5 (l := l) (D := D) (d := d) (Γ := Γ) (q := q) (m := m) (w := k) (le := le) (μ0 := μ) hm (by omega) (fun μ' a1 a2 a3 => hq1 μ' (by rw [hv1]; exact z) a1 (by rw [hix]; exact a2) (by rw [hv2]; exact a3)) m μ (Nat.le_refl m) rowF.rf (fun z h1 h2 => by omega)
    rw [Nat.sub_self, Nat.pow_zero, Nat.div_one, ← ek] at this
    exact this
  | succ c ih =>
    intro w b le hw hb hv
    have nx : ∀ b' le', (b' = -1 ∨ (∃ k, k < 625 ∧ b' = nI k)) → wayL goal bp m f g c (w + 1) b' le' = v → pt_X9_findFewest_4 l D d q Γ 0 (nI (5 ^ m)) (nI m) lk b' le' (nI w) μ := by
      intro b' le' hb' hv'
      refine bl_X9_findFewest_4 (by decide) ?_
      rintro _ rfl
      rw [nI_1]
      exact ih (w + 1) b' le' (by omega) hb' hv'
    rw [wayL] at hv
    refine bl_X9_findFewest_2 (by decide) ⟨fun z => absurd z (nI_ge (by omega) (by omega)), fun _ => ?_⟩
    rw [h0]
    refine ⟨ht, 0, _, by omega, c_X9_amount (k2 := 521) (L := 6) (f := g) rfl rfl rfl ht rfl (by decide) (by omega) (by omega) (fun z hz => (hg z hz).1), ?_⟩
    rintro v1 μ1 ⟨rfl, rfl⟩ _ rfl
    have yes : (b = -1 ∨ amF m w g < le) → pt_X9_findFewest_3 l D d q Γ 0 (nI (5 ^ m)) (nI m) lk b le (nI w) (amF m w g) μ1 := by
      intro z
      refine bl_X9_findFewest_3 (by decide) ?_
      rw [h0]
      refine ⟨ht, 0, _, by omega, c_X9_amount (k2 := 520) (L := 6) (f := f) rfl rfl rfl ht rfl (by decide) (by omega) (by omega) (fun z hz => (hf z hz).1), ?_⟩
      rintro v2 μ2 ⟨rfl, rfl⟩
      rw [hlk w]
      refine ⟨fun z2 => nx b le hb (by rw [if_neg (fun w => z2 w.1)] at hv; exact hv), fun z2 => ?_⟩
      have z2 := Decidable.not_not.mp z2
      rintro x5 e5 x6 e6
      rw [if_pos ⟨z2, z⟩] at hv
      rw [e5, e6]
      exact nx (nI w) (amF m w g) (Or.inr ⟨w, by omega, rfl⟩) hv
    refine ⟨fun z => yes (Or.inl z), fun hb1 => ⟨fun z => nx b le hb ?_, fun z => yes (Or.inr ?_)⟩⟩
    · rw [i32_le] at z
      rw [if_neg (fun c => ?_)] at hv
      · exact hv
      · rcases c.2 with c | c
        · exact hb1 c
        · rw [i32_lt] at c
          omega
    · rw [i32_le] at z
      rw [i32_lt]
      omega
theorem fewest_1 {Γ : gC} {q : Int32 → gMem → Prop} {m r1 : Nat} {v : Int32} (hr : r1 < 15) (hd : 1 ≤ d) (h : nC μ t n A S dy) (hm : m ≤ 4) (hv : v = ((μ.1 4 r1 0) - (μ.1 4 r1 1)) - psum (μ.1 520 t) (μ.1 331 r1) n) (hq : pt_X9_findFewest_2 l D d q Γ 0 (nI (5 ^ m)) (nI m) v (-1) 0 0 μ) :
    ∀ (c j : Nat), j + c = m → pt_X9_findFewest_1 l D d q Γ 0 r1 (nI (5 ^ j)) (nI m) (nI j) μ := by
  have ht := h.2.1
  have h6 := h.n6
  intro c
  induction c with
  | zero =>
    intro j hj
    obtain rfl : j = m := by omega
    refine bl_X9_findFewest_1 (by decide) hr ⟨fun _ => ?_, fun z => absurd (nI_le (Nat.le_refl _) (by omega)) z⟩
    rw [h.1]
    refine ⟨ht, ht, 0, _, by omega, c_X7_inPlan (k1 := 520) (k2 := 331) ht rfl ht rfl hr h.n7 h6 h6 (by decide) (by decide), ?_⟩
    rintro v1 μ1 ⟨rfl, rfl⟩ x4 e4 _ rfl _ rfl _ rfl
    rw [← hv] at e4
    rw [e4]
    exact hq
  | succ c ih =>
    intro j hj
    refine bl_X9_findFewest_1 (by decide) hr ⟨fun z => absurd z (nI_ge (by omega) (by omega)), fun _ => ?_⟩
    rintro _ rfl _ rfl
    rw [nI_1, show (5 : Int32) = nI 5 from rfl, pk_mul, ← Nat.pow_succ]
    exact ih (j + 1) (by omega)
theorem min4 {n : Nat} (h : n < 2 ^ 31) : imin (nI n) (4 : Int32) = nI (min n 4) := by
  apply Int32.toInt_inj.mp
  rw [imin_toInt, show (4 : Int32).toInt = 4 by decide, nI_toInt h, nI_toInt (by omega)]
  split <;> omega
theorem min4' {n : Nat} (h : n < 2 ^ 31) : imin (4 : Int32) (nI n) = nI (min n 4) := by
  apply Int32.toInt_inj.mp
  rw [imin_toInt, show (4 : Int32).toInt = 4 by decide, nI_toInt h, nI_toInt (by omega)]
  split <;> omega
/-- lacking, by both -/
theorem lack_iff {goal base pc a : Int32} (h1 : inR goal 0 99) (h2 : inR base 0 99) (h3 : inR pc 0 2000) (h4 : inR a 0 320) : a < (goal - base) - pc ↔ (base + pc) + a < goal := by
  have e1 : (goal - base).toInt = goal.toInt - base.toInt := fb_subI (by omega) (by omega)
  have e2 : ((goal - base) - pc).toInt = goal.toInt - base.toInt - pc.toInt := by rw [fb_subI (by rw [e1]; omega) (by rw [e1]; omega), e1]
  have e3 : (base + pc).toInt = base.toInt + pc.toInt := fb_addI (by omega) (by omega)
  have e4 : ((base + pc) + a).toInt = base.toInt + pc.toInt + a.toInt := by rw [fb_addI (by rw [e3]; omega) (by rw [e3]; omega), e3]
  rw [i32_lt, i32_lt, e2, e4]
  omega
theorem c_X9_deeds {f g : Nat → Int32} (hd : 3 ≤ d) (h : nC μ t n A S dy) (hf : ∀ z, z < n → μ.1 520 t z = f z ∧ inR (f z) 0 20) (hg : ∀ z, z < n → μ.1 521 t z = g z ∧ inR (g z) 0 20) : Ctr l D d yX9_deeds cX9_deeds 3 (some .int) [.ref (D.2.2 9 0), .int x1, .int x2] μ (pI (fun v μ' => v = deeF A S n f g x1 x2 ∧ cwF μ μ' ∧ jk μ')) := by
  have h5 := h.men
  have h6 := h.n6
  have ht := h.2.1
  have hA := h.2.2.1.2.1
  have hS := h.2.2.1.2.2.2.2.2.1
  have e4 : (4 : Int32).toInt = 4 := by decide
  refine en_X9_deeds (fun Γ => bl_X9_deeds_0 (by decide) ?_)
  rw [h.1, h.iw, iw_lit (x := x2) (za := 0) (zb := 4) (by decide) (by decide)]
  have body : isM (eMen A) x1 → inR x2 0 4 → ¬ (x2.toInt < 4 ∧ (n : Int) ≤ x2.toInt) → pt_X9_deeds_1 l D d (fun v μ' => v = deeF A S n f g x1 x2 ∧ cwF μ μ' ∧ jk μ') Γ 0 x1 x2 μ := by
    intro z1 z2 z3
    obtain ⟨m1, m2⟩ := isM_ix z1
    obtain ⟨n1, n2⟩ := inR_ix (b := 4) z2
    have val : deeF A S n f g x1 x2 = deeG (S (ix x1) 0) (S (ix x1) 1 + ePc A (ix x1)) (min n 4) f g x2 := by rw [deeF, if_pos ⟨z1, z2⟩, if_neg z3]
    generalize hv : wayL (S (ix x1) 0) (S (ix x1) 1 + ePc A (ix x1)) (min n 4) f g (5 ^ (min n 4)) 0 (-1) 0 = v
    have row : ∀ j, μ.1 4 (ix x1) j = S (ix x1) j := fun j => by rw [h.row (by omega)]
    have eps : psum (μ.1 520 t) (μ.1 331 (ix x1)) n = ePc A (ix x1) := by
      have := (h.2.2.1.2.2.2.1 (ix x1) m2).2
      rw [Nat.mul_zero, Nat.zero_add] at this
      exact this
    refine bl_X9_deeds_1 (by decide) ⟨ix x1, by omega, m1, 2, fun w μ' => (w = 0 ∧ v.1 = -1 ∧ μ' = μ) ∨ (w = 1 ∧ ¬ v.1 = -1 ∧ rowF 650 μ μ' ∧ (∀ z, z < min n 4 → μ'.1 650 0 z = nI (dgt (min n 4) (ix v.1) z)) ∧ μ'.1 650 0 4 = v.2), by omega, ?_, ?_⟩
    · rw [Nat.mul_zero, Nat.zero_add]
      refine en_X9_findFewest (fun Γ => bl_X9_findFewest_0 (by decide) (by omega) ?_)
      rintro _ rfl
      rw [h.1]
      refine ⟨ht, by omega, ?_⟩
      rw [h.n7, min4 (by omega)]
      rintro _ rfl _ rfl
      refine fewest_1 (m := min n 4) (by omega) (by omega) h (by omega) rfl ?_ (min n 4) 0 (by omega)
      have := fewest_2 (l := l) (D := D) (d := 2) (Γ := Γ) (μ := μ) (t := t) (m := min n 4) (f := f) (g := g) (goal := S (ix x1) 0) (bp := S (ix x1) 1 + ePc A (ix x1)) (lk := ((μ.1 4 (ix x1) 0) - (μ.1 4 (ix x1) 1)) - psum (μ.1 520 t) (μ.1 331 (ix x1)) n) (v := v) (q := fun w μ' => (w = 0 ∧ v.1 = -1 ∧ μ' = μ) ∨ (w = 1 ∧ ¬ v.1 = -1 ∧ rowF 650 μ μ' ∧ (∀ z, z < min n 4 → μ'.1 650 0 z = nI (dgt (min n 4) (ix v.1) z)) ∧ μ'.1 650 0 4 = v.2)) (by omega) ht h.1 (by omega) (fun z hz => hf z (by omega)) (fun z hz => hg z (by omega)) (fun w => ?_) (fun q => Or.inl ⟨rfl, q, rfl⟩) (fun μ' a b c e => Or.inr ⟨rfl, a, b, c, e⟩) (5 ^ (min n 4)) 0 (-1) 0 (by omega) (Or.inl rfl) hv
      · exact this
      · rw [row, row, eps]
        have hp := (hS.1 _ m2).1
        have rg := amF_rng (m := min n 4) (w := w) (f := f) (by omega) (fun z hz => (hf z (by omega)).2)
        rw [lack_iff ⟨hp.1.1, hp.1.2⟩ ⟨hp.2.1.1, hp.2.1.2⟩ ⟨(hA.2.2.2.2 _ m2).1, (hA.2.2.2.2 _ m2).2⟩ ⟨rg.1, rg.2⟩]
        unfold wayP
        rw [Decidable.not_not]
    · intro w μ' hw
      rw [val, deeG, hv]
      rcases hw with ⟨rfl, hv1, rfl⟩ | ⟨rfl, hv1, hF, hz, h4⟩
      · exact ⟨fun _ => ⟨by rw [if_pos hv1], cwF.rf, h.jk⟩, fun z => absurd rfl z⟩
      · refine ⟨fun z => absurd z (by decide), fun _ => ⟨ix x2, by omega, n1, ?_, ⟨fun k j _ _ _ hk _ => hF.1 k j (fun w => hk w.1), by rw [hF.2], fun k j _ _ _ _ => by rw [hF.2]⟩, h.jk.of (fun i => hF.1 4 i (by omega)) (fun i => hF.1 331 i (by omega))⟩⟩
        rw [if_neg hv1]
        by_cases hx : x2 = 4
        · have : ix x2 = 4 := by unfold ix; rw [hx]; rfl
          rw [if_pos hx, this, h4]
        · have hx4 : ¬ x2.toInt = 4 := fun w => hx (Int32.toInt_inj.mp (by rw [w, e4]))
          rw [if_neg hx, hz _ (by unfold ix; omega)]
  have le4 : (4 : Int32) ≤ x2 ↔ 4 ≤ x2.toInt := by rw [i32_le, e4]
  have ltn : x2 < μ.1 7 t 5 ↔ x2.toInt < n := by rw [i32_lt, h.n7, nI_toInt (by omega)]
  rw [le4, ltn]
  refine ⟨by omega, ht, fun z => ⟨by rw [deeF, if_neg (fun w => z w.1)], cwF.rf, h.jk⟩, fun z1 => ⟨by omega, fun z2 => ?_, fun z => ⟨by rw [deeF, if_neg (fun w => z w.2)], cwF.rf, h.jk⟩⟩⟩
  have z1 := Decidable.not_not.mp z1
  have z2 := Decidable.not_not.mp z2
  refine ⟨fun z => body z1 z2 (by omega), fun z => ⟨ht, fun z3 => body z1 z2 (by omega), fun z3 => ⟨?_, cwF.rf, h.jk⟩⟩⟩
  rw [deeF, if_pos ⟨z1, z2⟩, if_pos (by omega)]
end DC
section DM
variable {l : Launch} {D : gD} {d : Nat} {μ : gMem} {n dy : Nat} {A : wEnv} {S : pplS} {x1 x2 x3 : Int32}
theorem nI_sub2 {m q : Nat} (h : q < m) : (nI m - (1 : Int32)) - nI q = nI (m - 1 - q) := by
  rw [show (1 : Int32) = nI 1 from rfl, pk_sub (by omega), pk_sub (by omega)]
theorem deedsM_3 {Γ : gC} {q : Int32 → gMem → Prop} {m w man : Nat} {f g : Nat → Int32} {x2 b le bp goal : Int32} (hd : 1 ≤ d) (hm : m ≤ 4) (hw : w < 1000) (hman : man < 5) (hf : ∀ z, z < m → μ.1 714 0 z = f z) (hg : ∀ z, z < m → μ.1 715 0 z = g z) (hgoal : μ.1 740 0 man = goal)
    (hq : ∀ b' le', b' = (if wayP goal bp m f w ∧ (b = -1 ∨ amF m w g < le) then nI w else b) → le' = (if wayP goal bp m f w ∧ (b = -1 ∨ amF m w g < le) then amF m w g else le) → pt_X10_deeds_5 l D d q Γ 0 (nI man) x2 (nI m) b' le' (nI w) μ) :
    ∀ (c j : Nat), j + c = m → pt_X10_deeds_3 l D d q Γ 0 (nI man) x2 (nI m) b le (nI w) (bp + psum (fun q => nI (dgt m w q)) f j) (psum (fun q => nI (dgt m w q)) g j) (nI j) μ := by
  intro c
  induction c with
  | zero =>
    intro j hj
    obtain rfl : j = m := by omega
    have no : ¬ (wayP goal bp j f w ∧ (b = -1 ∨ amF j w g < le)) → pt_X10_deeds_5 l D d q Γ 0 (nI man) x2 (nI j) b le (nI w) μ := fun z => hq b le (by rw [if_neg z]) (by rw [if_neg z])
    have yes : (wayP goal bp j f w ∧ (b = -1 ∨ amF j w g < le)) → pt_X10_deeds_4 l D d q Γ 0 (nI man) x2 (nI j) (nI w) (psum (fun q => nI (dgt j w q)) g j) μ := by
      intro z
      refine bl_X10_deeds_4 (by decide) ?_
      rintro x4 e4 _ rfl
      rw [e4]
      exact hq _ _ (by rw [if_pos z]) (by rw [if_pos z]; rfl)
    refine bl_X10_deeds_3 (by decide) ⟨fun _ => ⟨man, by omega, rfl, ?_⟩, fun z => absurd (nI_le (Nat.le_refl _) (by omega)) z⟩
    rw [hgoal]
    refine ⟨fun z => no (fun w => w.1 z), fun z => ⟨fun z2 => yes ⟨z, Or.inl z2⟩, fun z2 => ⟨fun z3 => yes ⟨z, Or.inr z3⟩, fun z3 => no (fun w => ?_)⟩⟩⟩
    rcases w.2 with w2 | w2
    · exact z2 w2
    · exact z3 w2
  | succ c ih =>
    intro j hj
    have hle := p5_le (k := m - 1 - j) (by omega)
    have hp := p5_pos (m - 1 - j)
    have hdv : w / 5 ^ (m - 1 - j) ≤ w := Nat.div_le_self _ _
    refine bl_X10_deeds_3 (by decide) ⟨fun z => absurd z (nI_ge (by omega) (by omega)), fun _ => ⟨0, _, by omega, c_X10_fives (k := m - 1 - j) (nI_sub2 (by omega)) (by omega), ?_⟩⟩
    rintro v μ1 ⟨rfl, rfl⟩
    rw [pk_div (by omega) hp (by omega), r5 (by omega)]
    refine ⟨nI_ne0 hp (by omega), ?_⟩
    rintro x10 e10
    refine ⟨j, by omega, rfl, ?_⟩
    rw [hf j (by omega)]
    rintro _ rfl
    refine ⟨j, by omega, rfl, ?_⟩
    rw [hg j (by omega), e10]
    rintro _ rfl _ rfl
    rw [nI_1, Int32.add_assoc]
    exact ih (j + 1) (by omega)
theorem deedsM_2 {Γ : gC} {q : Int32 → gMem → Prop} {m man : Nat} {f g : Nat → Int32} {x2 : Int32} {v : Int32 × Int32} (hd : 2 ≤ d) (h : nM μ n A S dy) (hm : m ≤ 4) (hmn : m ≤ n) (hman : man < eMen A) (hx : inR x2 0 4) (hxm : ¬ x2 = 4 → ix x2 < m) (hf : ∀ z, z < m → μ.1 714 0 z = f z) (hg : ∀ z, z < m → μ.1 715 0 z = g z)
    (hq : q (if v.1 = -1 then -3 else if x2 = 4 then v.2 else nI (dgt m (ix v.1) (ix x2))) μ) :
    ∀ (c w : Nat) (b le : Int32), w + c = 5 ^ m → (b = -1 ∨ (∃ k, k < 625 ∧ b = nI k)) → wayL (S man 0) (S man 1 + ePc A man) m f g c w b le = v → pt_X10_deeds_2 l D d q Γ 0 (nI man) x2 (nI m) b le (nI w) μ := by
  have h625 := p5_le hm
  have h5 := h.men
  have h6 := h.n6
  intro c
  induction c with
  | zero =>
    intro w b le hw hb hv
    rw [wayL] at hv
    have hv1 : v.1 = b := by rw [← hv]
    have hv2 : v.2 = le := by rw [← hv]
    rw [hv1, hv2] at hq
    refine bl_X10_deeds_2 (by decide) ⟨0, _, by omega, c_X10_fives (k := m) rfl hm, ?_⟩
    rintro v1 μ1 ⟨rfl, rfl⟩
    refine ⟨fun _ => ⟨fun z => ⟨fun z2 => ?_, fun z2 => ?_⟩, fun z => ?_⟩, fun z => absurd (nI_le (by omega) (by omega)) z⟩
    · obtain ⟨k, hk, ek⟩ : ∃ k, k < 625 ∧ b = nI k := by
        rcases hb with w | w
        · exact absurd w z
        · exact w
      have hxm := hxm z2
      have e2 : x2 = nI (ix x2) := ix_nI hx.1
      have hp := p5_pos (m - 1 - ix x2)
      have hle := p5_le (k := m - 1 - ix x2) (by omega)
      have hdv : k / 5 ^ (m - 1 - ix x2) ≤ k := Nat.div_le_self _ _
      refine ⟨0, _, by omega, c_X10_fives (k := m - 1 - ix x2) ?_ (by omega), ?_⟩
      · have := nI_sub2 hxm
        rw [← e2] at this
        exact this
      · rintro v2 μ2 ⟨rfl, rfl⟩
        rw [if_neg z, if_neg z2, ek, ix_eq rfl (by omega)] at hq
        rw [ek, pk_div (by omega) hp (by omega), r5 (by omega)]
        exact ⟨nI_ne0 hp (by omega), hq⟩
    · rw [if_neg z, if_pos z2] at hq
      exact hq
    · rw [if_pos z] at hq
      exact hq
  | succ c ih =>
    intro w b le hw hb hv
    rw [wayL] at hv
    refine bl_X10_deeds_2 (by decide) ⟨0, _, by omega, c_X10_fives (k := m) rfl hm, ?_⟩
    rintro v1 μ1 ⟨rfl, rfl⟩
    refine ⟨fun z => absurd z (nI_ge (by omega) (by omega)), fun _ => ⟨man, by omega, rfl, 0, _, by omega, c_X10_deedSteps (w := 0) (p := man) (k3 := 714) (n := n) (by decide) (by omega) rfl (by decide) h.n7 h6 (by show n ≤ 12; omega) (by decide), ?_⟩⟩
    rintro v2 μ2 ⟨rfl, rfl⟩
    have ep : psum (μ2.1 714 0) (fun k => μ2.1 751 0 (30 * 0 + 6 * man + k)) n = ePc A man := by
      have := (h.1.2.2.2.1 man hman).2
      unfold prM at this
      rw [if_neg (by rw [h.2.2.2.1]; decide)] at this
      exact this
    rw [if_neg (by rw [h.2.2.2.1]; decide), ep, show μ2.1 741 0 man = S man 1 from h.row hman (j := 1) (by omega)]
    rintro x7 e7 _ rfl _ rfl
    have e7' : x7 = (S man 1 + ePc A man) + psum (fun q => nI (dgt m w q)) f 0 := by rw [e7, psum, Int32.add_zero]
    rw [e7']
    refine deedsM_3 (bp := S man 1 + ePc A man) (goal := S man 0) (by omega) hm (by omega) (by omega) hf hg (h.row hman (j := 0) (by omega)) ?_ m 0 (by omega)
    intro b' le' hb' hle'
    refine bl_X10_deeds_5 (by decide) ?_
    rintro _ rfl
    rw [nI_1, hb', hle']
    by_cases hc : wayP (S man 0) (S man 1 + ePc A man) m f w ∧ (b = -1 ∨ amF m w g < le)
    · rw [if_pos hc, if_pos hc]
      rw [if_pos hc] at hv
      exact ih (w + 1) _ _ (by omega) (Or.inr ⟨w, by omega, rfl⟩) hv
    · rw [if_neg hc, if_neg hc]
      rw [if_neg hc] at hv
      exact ih (w + 1) _ _ (by omega) hb hv
theorem c_X10_deeds {f g : Nat → Int32} (hd : 3 ≤ d) (h : nM μ n A S dy) (hf : ∀ z, z < n → μ.1 714 0 z = f z) (hg : ∀ z, z < n → μ.1 715 0 z = g z) : Ctr l D d yX10_deeds cX10_deeds 11 (some .int) [.ref (D.2.2 10 0), .int x1, .int x2] μ (pI (fun v μ' => v = deeF A S n f g x1 x2 ∧ mqF μ μ')) := by
  have h5 := h.men
  have h6 := h.n6
  have e4 : (4 : Int32).toInt = 4 := by decide
  refine en_X10_deeds (fun Γ => bl_X10_deeds_0 (by decide) ?_)
  rintro μ1 e1
  have hF0 : mqF μ μ1 := by rw [e1]; exact h.th.1
  have h1 : nM μ1 n A S dy := by rw [e1]; exact h.th.2
  clear e1
  have le4 : (4 : Int32) ≤ x2 ↔ 4 ≤ x2.toInt := by rw [i32_le, e4]
  have ltm : x2 < nI (min n 4) ↔ x2.toInt < (min n 4 : Nat) := by rw [i32_lt, nI_toInt (by omega)]
  rw [h1.isn, lt0, leL (z := 4) e4, h1.n7, min4' (by omega), le4]
  have body : isM (eMen A) x1 → inR x2 0 4 → ¬ (x2.toInt < 4 ∧ (n : Int) ≤ x2.toInt) → pt_X10_deeds_1 l D d (fun v μ' => v = deeF A S n f g x1 x2 ∧ mqF μ μ') Γ 0 x1 x2 (nI (min n 4)) μ1 := by
    intro z1 z2 z3
    obtain ⟨m1, m2⟩ := isM_ix z1
    refine bl_X10_deeds_1 (by decide) ?_
    rintro _ rfl _ rfl _ rfl
    have := deedsM_2 (l := l) (D := D) (d := d) (Γ := Γ) (μ := μ1) (q := fun v μ' => v = deeF A S n f g x1 x2 ∧ mqF μ μ') (m := min n 4) (man := ix x1) (f := f) (g := g) (x2 := x2) (v := wayL (S (ix x1) 0) (S (ix x1) 1 + ePc A (ix x1)) (min n 4) f g (5 ^ (min n 4)) 0 (-1) 0) (by omega) h1 (by omega) (by omega) m2 z2 (fun hx => by
      have : ¬ x2.toInt = 4 := fun w => hx (Int32.toInt_inj.mp (by rw [w, e4]))
      unfold ix; omega) (fun z hz => by rw [hF0.1 714 0 (by omega) (by omega)]; exact hf z (by omega)) (fun z hz => by rw [hF0.1 715 0 (by omega) (by omega)]; exact hg z (by omega)) ⟨by rw [deeF, if_pos (c := isM (eMen A) x1 ∧ inR x2 0 4) ⟨z1, z2⟩, if_neg z3, deeG], hF0⟩ (5 ^ (min n 4)) 0 (-1) 0 (by omega) (Or.inl rfl) rfl
    rw [← m1] at this
    exact this
  refine ⟨by omega, fun z => ⟨by rw [deeF, if_neg (fun w => z w.1)], hF0⟩, fun z1 => ⟨fun z => ⟨by rw [deeF, if_neg (fun w => by have := w.2; omega)], hF0⟩, fun z2 => ⟨fun z3 => ⟨by omega, ?_⟩, fun z => ⟨by rw [deeF, if_neg (fun w => by have := w.2; omega)], hF0⟩⟩⟩⟩
  have z1 := Decidable.not_not.mp z1
  have y2 : inR x2 0 4 := by omega
  rintro _ rfl
  rw [ltm]
  refine ⟨fun z => body z1 y2 (by omega), fun z => ⟨fun z4 => body z1 y2 (by omega), fun z4 => ⟨?_, hF0⟩⟩⟩
  rw [deeF, if_pos (c := isM (eMen A) x1 ∧ inR x2 0 4) ⟨z1, y2⟩, if_pos (by omega)]
end DM
