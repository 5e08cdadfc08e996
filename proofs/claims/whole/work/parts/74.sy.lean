/-! THE FORMULA as a machine with a row of signs -/
abbrev cdT : Type := Nat → Int32 × Int32
def upC (c : cdT) (f : Nat) (x : Int32 × Int32) : cdT := fun i => if i = f then x else c i
def upB (c : Nat → Bool) (f : Nat) (x : Bool) : Nat → Bool := fun i => if i = f then x else c i
def str (k : Int32) : Nat := if k = 11 then 1 else if k = 12 then 2 else if k = 13 then 3 else if k = 27 then 5 else if k = 28 then 5 else if k = 29 then 6 else if k = 30 then 6 else if k = 31 then 0 else 4
theorem strn_n (k : Int32) : strn k = nI (str k) := by
  unfold strn str
  repeat' split
  all_goals rfl
theorem str_le (k : Int32) : str k ≤ 6 := by
  unfold str
  repeat' split
  all_goals omega
theorem str_31 {k : Int32} (h : 1 ≤ str k) : ¬ k = 31 := by
  rintro rfl
  exact absurd h (by decide)
def rel (s : Nat) : List Int32 → cdT → Nat → List Int32 × cdT × Nat
  | [], c, f => ([], c, f)
  | k :: W, c, f => if s ≤ str k then rel s W (upC c f (ck k 0)) (f + 1) else (k :: W, c, f)
abbrev isV (k : Int32) : Prop := k = 34 ∨ inR k 14 20
abbrev canP (w nm cm : Bool) (o : Nat) (k : Int32) : Prop := (w = true ∧ (isV k ∨ k = 31 ∨ (k = 13 ∧ nm = true))) ∨ (w = false ∧ ((k = 32 ∧ 0 < o) ∨ (¬ k = 32 ∧ (k = 11 ∨ k = 12 ∨ inR k 27 30 ∨ (inR k 21 26 ∧ cm = false)))))
abbrev tooP (o n : Nat) (k v : Int32) : Prop := (k = 31 ∧ 8 ≤ o) ∨ (¬ k = 31 ∧ ¬ k = 32 ∧ (64 ≤ n ∨ (k = 34 ∧ 9999 < v.toInt)))
/-- fault and place; or place, code, how many, knots -/
abbrev rsT : Type := (Int32 × Nat) ⊕ (Nat × cdT × Nat × Nat)
noncomputable def tkK (lg : Nat → Int32) (tb : Nat → Nat) (L p : Nat) : Int32 := (tkF lg tb L p).2.1
noncomputable def tkV (lg : Nat → Int32) (tb : Nat → Nat) (L p : Nat) : Int32 := (tkF lg tb L p).2.2.1
def cmN (cm : Nat → Bool) (o : Nat) (k : Int32) : Nat → Bool := if inR k 21 26 then upB cm o true else if str k ≤ 3 then upB cm o false else cm
noncomputable def syR (lg : Nat → Int32) (tb : Nat → Nat) (L : Nat) : Nat → Nat → List Int32 → (Nat → Bool) → Nat → Bool → Bool → cdT → Nat → Nat → Option rsT
  | 0, _, _, _, _, _, _, _, _, _ => none
  | m + 1, p, W, cm, o, w, nm, c, f, n =>
    if ¬ canP w nm (cm o) o (tkK lg tb L p) then (if w = true ∨ 0 < o then some (.inl (1, p)) else some (.inr (p, (rel 1 W c f).2.1, (rel 1 W c f).2.2, n)))
    else if tooP o n (tkK lg tb L p) (tkV lg tb L p) then some (.inl (2, p))
    else if isV (tkK lg tb L p) then syR lg tb L m (nxP lg tb L p) W cm o false nm (upC c f (ck (tkK lg tb L p) (tkV lg tb L p))) (f + 1) (n + 1)
    else if tkK lg tb L p = 31 then syR lg tb L m (nxP lg tb L p) (31 :: W) (upB cm (o + 1) false) (o + 1) w true c f n
    else if tkK lg tb L p = 32 then syR lg tb L m (nxP lg tb L p) (rel 1 W c f).1.tail cm (o - 1) w nm (rel 1 W c f).2.1 (rel 1 W c f).2.2 n
    else if tkK lg tb L p = 13 then syR lg tb L m (nxP lg tb L p) (13 :: W) (cmN cm o 13) o true true c f (n + 1)
    else syR lg tb L m (nxP lg tb L p) (tkK lg tb L p :: (rel (str (tkK lg tb L p)) W c f).1) (cmN cm o (tkK lg tb L p)) o true (decide (str (tkK lg tb L p) ≤ 3)) (rel (str (tkK lg tb L p)) W c f).2.1 (rel (str (tkK lg tb L p)) W c f).2.2 (n + 1)
/-- how many signs, how many '(' wait -/
def cnS : List Int32 → Nat
  | [] => 0
  | k :: W => (if k = 31 then 0 else 1) + cnS W
def cnO : List Int32 → Nat
  | [] => 0
  | k :: W => (if k = 31 then 1 else 0) + cnO W
theorem cn_len : ∀ W : List Int32, W.length = cnS W + cnO W := by
  intro W
  induction W with
  | nil => rfl
  | cons k W ih =>
    show W.length + 1 = (if k = 31 then 0 else 1) + cnS W + ((if k = 31 then 1 else 0) + cnO W)
    split <;> omega
def sgn (k : Int32) : Prop := k = 31 ∨ (¬ k = 34 ∧ ¬ inR k 14 20 ∧ ¬ k = 19)
theorem rel_cn {s : Nat} (hs : 1 ≤ s) : ∀ (W : List Int32) (c : cdT) (f : Nat), (rel s W c f).2.2 + cnS (rel s W c f).1 = f + cnS W ∧ cnO (rel s W c f).1 = cnO W ∧ f ≤ (rel s W c f).2.2 ∧ (rel s W c f).1.length ≤ W.length := by
  intro W
  induction W with
  | nil => intro c f; exact ⟨rfl, rfl, Nat.le_refl _, Nat.le_refl _⟩
  | cons k W ih =>
    intro c f
    rw [rel]
    by_cases h : s ≤ str k
    · rw [if_pos h]
      have := ih (upC c f (ck k 0)) (f + 1)
      have n31 := str_31 (Nat.le_trans hs h)
      rw [cnS, cnO, if_neg n31, if_neg n31]
      show _ ∧ _ ∧ _ ∧ _ ≤ W.length + 1
      omega
    · rw [if_neg h]
      exact ⟨rfl, rfl, Nat.le_refl _, Nat.le_refl _⟩
theorem rel_mem {s : Nat} {P : Int32 → Prop} : ∀ (W : List Int32) (c : cdT) (f : Nat), (∀ k, k ∈ W → P k) → ∀ k, k ∈ (rel s W c f).1 → P k := by
  intro W
  induction W with
  | nil => intro c f h; exact h
  | cons k W ih =>
    intro c f h
    rw [rel]
    by_cases hs : s ≤ str k
    · rw [if_pos hs]
      exact ih _ _ (fun x hx => h x (List.mem_cons_of_mem _ hx))
    · rw [if_neg hs]
      exact h
def bB (b : Bool) : Int32 := if b = true then 1 else 0
theorem bB_0 {b : Bool} : bB b = 0 ↔ b = false := by cases b <;> decide
/-- the row that waits -/
def rwC (f : Nat → Int32) (W : List Int32) : Prop := ∀ j, j < W.length → f j = W.getD (W.length - 1 - j) 0
theorem rwC_push {f : Nat → Int32} {W : List Int32} {k : Int32} (h : rwC f W) : rwC (fun j => if j = W.length then k else f j) (k :: W) := by
  intro j hj
  have hj : j < W.length + 1 := hj
  show (if j = W.length then k else f j) = (k :: W).getD (W.length + 1 - 1 - j) 0
  by_cases e : j = W.length
  · rw [if_pos e, show W.length + 1 - 1 - j = 0 by omega]; rfl
  · rw [if_neg e, h j (by omega), show W.length + 1 - 1 - j = (W.length - 1 - j) + 1 by omega]; rfl
theorem rwC_top {f : Nat → Int32} {W : List Int32} {k : Int32} (h : rwC f (k :: W)) : f W.length = k := by
  rw [h W.length (Nat.lt_succ_self _), show (k :: W).length - 1 - W.length = 0 by show W.length + 1 - 1 - W.length = 0; omega]
  rfl
theorem rwC_pop {f : Nat → Int32} {W : List Int32} {k : Int32} (h : rwC f (k :: W)) : rwC f W := by
  intro j hj
  rw [h j (Nat.lt_succ_of_lt hj), show (k :: W).length - 1 - j = (W.length - 1 - j) + 1 by show W.length + 1 - 1 - j = _; omega]
  rfl
/-- the law's code, as far as it is filled -/
def lwC (μ : gMem) (t : Nat) (c : cdT) (f : Nat) : Prop := μ.1 2 t 6 = nI f ∧ (∀ i, i < f → c i = ck (μ.1 192 t i) (μ.1 193 t i)) ∧ (μ.1 2 t 8 = 0 ∨ μ.1 2 t 8 = 1) ∧ (μ.1 2 t 8 = 0 → ∀ i, i < f → ¬ c i = (1, 5))
def fmF (t : Nat) (μ μ' : gMem) : Prop := (∀ k j, ¬ (j = 0 ∧ (k = 1 ∨ k = 128 ∨ k = 130)) → ¬ (j = t ∧ (k = 2 ∨ k = 192 ∨ k = 193)) → μ'.1 k j = μ.1 k j) ∧ (∀ j, ¬ (6 ≤ j ∧ j ≤ 8) → μ'.1 2 t j = μ.1 2 t j) ∧ μ'.2 = μ.2
theorem fmF.rf {t : Nat} {μ : gMem} : fmF t μ μ := ⟨fun _ _ _ _ => rfl, fun _ _ => rfl, rfl⟩
theorem fmF.tr {t : Nat} {μ μ1 μ2 : gMem} (h : fmF t μ μ1) (h2 : fmF t μ1 μ2) : fmF t μ μ2 := ⟨fun k j a b => (h2.1 k j a b).trans (h.1 k j a b), fun j a => (h2.2.1 j a).trans (h.2.1 j a), h2.2.2.trans h.2.2⟩
theorem fmF.p0 {t k j : Nat} {μ μ1 : gMem} {v : Int32} (h : fmF t μ μ1) (hk : k = 1 ∨ k = 128 ∨ k = 130) : fmF t μ (gsI μ1 k 0 j v) := ⟨fun a b x y => by rw [gsI_off (by omega)]; exact h.1 a b x y, fun a x => by rw [gsI_off (by omega)]; exact h.2.1 a x, h.2.2⟩
theorem fmF.p2 {t j : Nat} {μ μ1 : gMem} {v : Int32} (h : fmF t μ μ1) (hj : 6 ≤ j ∧ j ≤ 8) : fmF t μ (gsI μ1 2 t j v) := ⟨fun a b x y => by rw [gsI_off (by omega)]; exact h.1 a b x y, fun a x => by rw [gsI_at, if_neg (by omega)]; exact h.2.1 a x, h.2.2⟩
theorem fmF.pa {t k j : Nat} {μ μ1 : gMem} {v : Int32} (h : fmF t μ μ1) (hk : k = 192 ∨ k = 193) : fmF t μ (gsI μ1 k t j v) := ⟨fun a b x y => by rw [gsI_off (by omega)]; exact h.1 a b x y, fun a x => by rw [gsI_off (by omega)]; exact h.2.1 a x, h.2.2⟩
section SC
variable {l : Launch} {D : gD} {d : Nat} {μ : gMem} {t : Nat} {c : cdT} {f n : Nat}
theorem c_X2_add {x1 x2 : Int32} (ht : t < 2) (h : lwC μ t c f) (hf : f < 64) (h19 : x1 = 19 ∨ ¬ ck x1 x2 = (1, 5)) : Ctr l D d yX2_add cX2_add 3 none [.ref (D.2.2 2 t), .int x1, .int x2] μ (pV (fun μ' => fmF t μ μ' ∧ (∀ k j, k = 1 ∨ k = 128 ∨ k = 130 → μ'.1 k j = μ.1 k j) ∧ μ'.1 2 t 7 = μ.1 2 t 7 ∧ lwC μ' t (upC c f (ck x1 x2)) (f + 1))) := by
  refine en_X2_add (fun Γ => bl_X2_add_0 ht ⟨fun z => ?_, fun _ => ⟨f, hf, h.1, ?_⟩⟩)
  · rw [h.1, show (64 : Int32) = nI 64 from rfl, nI_leI (by omega) (by omega)] at z
    omega
  rintro μ3 e3
  have g3 : μ3.1 2 t 6 = nI f := by rw [e3, gsI_off (by omega)]; exact h.1
  refine ⟨f, hf, g3, ?_⟩
  rintro μ5 e5 μ6 e6
  have g5 : μ5.1 2 t 6 = nI f := by rw [e5, gsI_off (by omega)]; exact g3
  rw [g5, nI_1] at e6
  have F6 : fmF t μ μ6 := by rw [e6, e5, e3]; exact ((fmF.rf.pa (by omega)).pa (by omega)).p2 (by omega)
  have k6 : ∀ k j, k = 1 ∨ k = 128 ∨ k = 130 → μ6.1 k j = μ.1 k j := fun k j hk => by rw [e6, gsI_off (by omega), e5, gsI_off (by omega), e3, gsI_off (by omega)]
  have o6 : ∀ j, ¬ j = 6 → μ6.1 2 t j = μ.1 2 t j := fun j hj => by rw [e6, gsI_at, if_neg (by omega), e5, gsI_off (by omega), e3, gsI_off (by omega)]
  have s6 : μ6.1 2 t 6 = nI (f + 1) := by rw [e6, gsI_s]
  have c6 : ∀ i, i < f + 1 → upC c f (ck x1 x2) i = ck (μ6.1 192 t i) (μ6.1 193 t i) := by
    intro i hi
    have a2 : μ6.1 192 t i = if i = f then x1 else μ.1 192 t i := by rw [e6, gsI_off (by omega), e5, gsI_off (by omega), e3, gsI_row]
    have a3 : μ6.1 193 t i = if i = f then x2 else μ.1 193 t i := by
      rw [e6, gsI_off (by omega), e5, gsI_row]
      show (if i = f then x2 else μ3.1 193 t i) = _
      rw [e3, gsI_off (by omega)]
    rw [a2, a3, upC]
    by_cases e : i = f
    · rw [if_pos e, if_pos e, if_pos e]
    · rw [if_neg e, if_neg e, if_neg e]
      exact h.2.1 i (by omega)
  clear e3 e5 e6
  have fin : ∀ v : Int32, (v = 0 ∨ v = 1) → (v = 0 → μ.1 2 t 8 = 0 ∧ ¬ x1 = 19) → pt_X2_add_2 l D d (fun μ' => fmF t μ μ' ∧ (∀ k j, k = 1 ∨ k = 128 ∨ k = 130 → μ'.1 k j = μ.1 k j) ∧ μ'.1 2 t 7 = μ.1 2 t 7 ∧ lwC μ' t (upC c f (ck x1 x2)) (f + 1)) Γ t v μ6 := by
    intro v hv h0
    refine bl_X2_add_2 ht ⟨hv, ?_⟩
    rintro μ7 e7
    have s8 : μ7.1 2 t 8 = v := by rw [e7, gsI_s]
    refine ⟨by rw [e7]; exact F6.p2 (by omega), fun k j hk => by rw [e7, gsI_off (by omega)]; exact k6 k j hk, by rw [e7, gsI_at, if_neg (by omega)]; exact o6 7 (by omega), by rw [e7, gsI_at, if_neg (by omega)]; exact s6, fun i hi => by rw [e7, gsI_off (by omega), gsI_off (by omega)]; exact c6 i hi, by rw [s8]; exact hv, ?_⟩
    rw [s8]
    intro hv0 i hi
    obtain ⟨m8, n19⟩ := h0 hv0
    unfold upC
    by_cases e : i = f
    · rw [if_pos e]
      exact h19.resolve_left n19
    · rw [if_neg e]
      exact h.2.2.2 m8 i (by omega)
  have o8 : μ6.1 2 t 8 = μ.1 2 t 8 := o6 8 (by omega)
  rw [o8]
  refine ⟨fun z => bl_X2_add_1 ht (fin 1 (Or.inr rfl) (fun w => absurd w (by decide))), fun z => ⟨fun z2 => fin 0 (Or.inl rfl) (fun _ => ⟨z, z2⟩), fun z2 => bl_X2_add_1 ht (fin 1 (Or.inr rfl) (fun w => absurd w (by decide)))⟩⟩
theorem c_X1_hold {W : List Int32} {x1 : Int32} (hw : μ.1 1 0 1 = nI W.length) (hr : rwC (μ.1 128 0) W) (hl : W.length < 72) : Ctr l D d yX1_hold cX1_hold 2 none [.ref (D.2.2 1 0), .int x1] μ (pV (fun μ' => fmF t μ μ' ∧ (∀ j, ¬ j = 1 → μ'.1 1 0 j = μ.1 1 0 j) ∧ (∀ k j, ¬ ((k = 1 ∨ k = 128) ∧ j = 0) → μ'.1 k j = μ.1 k j) ∧ μ'.1 1 0 1 = nI (x1 :: W).length ∧ rwC (μ'.1 128 0) (x1 :: W))) := by
  refine en_X1_hold (fun Γ => bl_X1_hold_0 (by decide) ?_)
  rw [hw]
  refine ⟨fun z => absurd z (nI_ge (by omega) (by omega)), fun _ => ⟨W.length, hl, rfl, ?_⟩⟩
  rintro μ3 e3 μ4 e4
  have g3 : μ3.1 1 0 1 = nI W.length := by rw [e3, gsI_off (by omega)]; exact hw
  rw [g3, nI_1] at e4
  refine ⟨by rw [e4, e3]; exact (fmF.rf.p0 (by omega)).p0 (by omega), fun j hj => by rw [e4, gsI_at, if_neg (by omega), e3, gsI_off (by omega)], fun k j hk => by rw [e4, gsI_off (by omega), e3, gsI_off (by omega)], by rw [e4, gsI_s]; rfl, ?_⟩
  rw [e4, gsI_off (by omega), e3, gsI_row]
  exact rwC_push hr
/-- a sign that waits is no number and no name -/
def wSg (W : List Int32) : Prop := ∀ k, k ∈ W → k = 31 ∨ (¬ k = 34 ∧ ¬ inR k 14 20)
theorem wSg_ck {k : Int32} (h : ¬ k = 34 ∧ ¬ inR k 14 20) : ck k 0 = (2, sgk k) := by
  rw [ck, if_neg h.1, if_pos (by rw [iw_lit (za := 14) (zb := 20) (by decide) (by decide)]; exact h.2)]
theorem release_0 {Γ : gC} {q : gMem → Prop} {s : Nat} {μ0 : gMem} {Wf : List Int32} {cf : cdT} {ff : Nat} (ht : t < 2) (hd : 1 ≤ d) (hs1 : 1 ≤ s) (hs : s ≤ 6) (hq : ∀ μ', fmF t μ0 μ' → (∀ j, ¬ j = 1 → μ'.1 1 0 j = μ0.1 1 0 j) → μ'.1 130 0 = μ0.1 130 0 → μ'.1 2 t 7 = μ0.1 2 t 7 → μ'.1 1 0 1 = nI Wf.length → rwC (μ'.1 128 0) Wf → lwC μ' t cf ff → q μ') :
    ∀ (W : List Int32) (c : cdT) (f : Nat) (μ : gMem), f + cnS W ≤ 64 → W.length ≤ 72 → wSg W → rel s W c f = (Wf, cf, ff) → fmF t μ0 μ → (∀ j, ¬ j = 1 → μ.1 1 0 j = μ0.1 1 0 j) → μ.1 130 0 = μ0.1 130 0 → μ.1 2 t 7 = μ0.1 2 t 7 → μ.1 1 0 1 = nI W.length → rwC (μ.1 128 0) W → lwC μ t c f → pt_X1_release_0 l D d q Γ 0 t (nI s) μ := by
  intro W
  induction W with
  | nil =>
    intro c f μ hc hl hg he F k1 k130 k7 hw hr hL
    rw [rel] at he
    obtain ⟨rfl, e2⟩ := Prod.mk.inj he
    obtain ⟨rfl, rfl⟩ := Prod.mk.inj e2
    refine bl_X1_release_0 (by decide) ht ⟨fun _ => hq μ F k1 k130 k7 hw hr hL, fun z => absurd (by rw [hw]; decide) z⟩
  | cons k W ih =>
    intro c f μ hc hl hg he F k1 k130 k7 hw hr hL
    have hl2 : W.length + 1 ≤ 72 := hl
    have hw2 : μ.1 1 0 1 = nI (W.length + 1) := hw
    have top := rwC_top hr
    refine bl_X1_release_0 (by decide) ht ⟨fun z => absurd z (by rw [hw2]; exact nI_nle (by omega) (by omega)), fun _ => ?_⟩
    rw [hw2, nI_pred]
    refine ⟨W.length, by omega, rfl, by omega, ?_⟩
    rw [top, strn_n]
    have hk6 := str_le k
    rw [nI_ltI (by omega) (by omega)]
    rw [rel] at he
    refine ⟨fun z => ?_, fun z => ?_⟩
    · rw [if_neg (by omega)] at he
      obtain ⟨rfl, e2⟩ := Prod.mk.inj he
      obtain ⟨rfl, rfl⟩ := Prod.mk.inj e2
      exact hq μ F k1 k130 k7 hw hr hL
    · rw [if_pos (by omega)] at he
      have n31 : ¬ k = 31 := str_31 (by omega)
      have hck := wSg_ck ((hg k (List.mem_cons_self)).resolve_left n31)
      rw [cnS, if_neg n31] at hc
      rintro μ8 e8
      have F8 : fmF t μ0 μ8 := by rw [e8]; exact F.p0 (by omega)
      have g8 : μ8.1 1 0 1 = nI W.length := by rw [e8, gsI_s]
      have o8 : ∀ k j, ¬ k = 1 → μ8.1 k j = μ.1 k j := fun k j hk => by rw [e8, gsI_off (by omega)]
      have p8 : ∀ j, ¬ j = 1 → μ8.1 1 0 j = μ.1 1 0 j := fun j hj => by rw [e8, gsI_at, if_neg (by omega)]
      have L8 : lwC μ8 t c f := by
        unfold lwC
        rw [o8 2 t (by omega), o8 192 t (by omega), o8 193 t (by omega)]
        exact hL
      have t8 : μ8.1 128 0 W.length = k := by rw [o8 128 0 (by omega)]; exact top
      clear e8
      refine ⟨W.length, by omega, g8, 0, _, by omega, c_X2_add (t := t) (x1 := μ8.1 128 0 W.length) (x2 := 0) ht L8 (by omega) (Or.inr (by rw [t8, hck]; intro w; exact absurd (congrArg Prod.fst w) (show ¬ (2 : Int32) = 1 by decide))), ?_⟩
      rw [t8]
      rintro μ9 ⟨F9, k9, n9, L9⟩
      refine ih _ _ μ9 (by omega) (by omega) (fun x hx => hg x (List.mem_cons_of_mem _ hx)) he (F8.tr F9) (fun j hj => ?_) ?_ ?_ ?_ ?_ L9
      · rw [k9 1 0 (by omega), p8 j hj]; exact k1 j hj
      · rw [k9 130 0 (by omega), o8 130 0 (by omega)]; exact k130
      · rw [n9, o8 2 t (by omega)]; exact k7
      · rw [k9 1 0 (by omega)]; exact g8
      · rw [k9 128 0 (by omega), o8 128 0 (by omega)]; exact rwC_pop hr
theorem c_X1_release {W : List Int32} {s : Nat} {x2 : Int32} (hx : x2 = nI s) (ht : t < 2) (hd : 1 ≤ d) (hs1 : 1 ≤ s) (hs : s ≤ 6) (hc : f + cnS W ≤ 64) (hl : W.length ≤ 72) (hg : wSg W) (hw : μ.1 1 0 1 = nI W.length) (hr : rwC (μ.1 128 0) W) (hL : lwC μ t c f) : Ctr l D d yX1_release cX1_release 3 none [.ref (D.2.2 1 0), .ref (D.2.2 2 t), .int x2] μ (pV (fun μ' => fmF t μ μ' ∧ (∀ j, ¬ j = 1 → μ'.1 1 0 j = μ.1 1 0 j) ∧ μ'.1 130 0 = μ.1 130 0 ∧ μ'.1 2 t 7 = μ.1 2 t 7 ∧ μ'.1 1 0 1 = nI (rel s W c f).1.length ∧ rwC (μ'.1 128 0) (rel s W c f).1 ∧ lwC μ' t (rel s W c f).2.1 (rel s W c f).2.2)) := by
  subst hx
  exact en_X1_release (fun Γ => release_0 (μ0 := μ) ht hd hs1 hs (fun μ' a b c e f g h => ⟨a, b, c, e, f, g, h⟩) W c f μ hc hl hg rfl fmF.rf (fun _ _ => rfl) rfl rfl hw hr hL)
/-- the class's formula holds a state of the machine -/
def fmC (μ : gMem) (t : Nat) (W : List Int32) (cm : Nat → Bool) (o : Nat) (w nm : Bool) (c : cdT) (f n : Nat) : Prop := (μ.1 1 0 1 = nI W.length ∧ rwC (μ.1 128 0) W) ∧ μ.1 1 0 3 = nI o ∧ (∀ j, j ≤ o → μ.1 130 0 j = bB (cm j)) ∧ μ.1 1 0 4 = bB w ∧ μ.1 1 0 5 = bB nm ∧ lwC μ t c f ∧ μ.1 2 t 7 = nI n
def fmK (W : List Int32) (o f n : Nat) : Prop := f + cnS W = n ∧ n ≤ 64 ∧ cnO W = o ∧ o ≤ 8 ∧ wSg W
theorem c_X1_canStand {W : List Int32} {cm : Nat → Bool} {o : Nat} {w nm : Bool} {x1 : Int32} (hd : 2 ≤ d) (h : fmC μ t W cm o w nm c f n) (ho : o ≤ 8) : Ctr l D d yX1_canStand cX1_canStand 2 (some .boolean) [.ref (D.2.2 1 0), .int x1] μ (pI (fun v μ' => v = bI (canP w nm (cm o) o x1) ∧ μ' = μ)) := by
  obtain ⟨-, h3, h130, h4, h5, -⟩ := h
  have iw1 : iw x1 (27 : Int32) (30 : Int32) = 0 ↔ ¬ inR x1 27 30 := iw_lit (by decide) (by decide)
  have iw2 : iw x1 (21 : Int32) (26 : Int32) = 0 ↔ ¬ inR x1 21 26 := iw_lit (by decide) (by decide)
  have iv : ivl x1 = 0 ↔ ¬ isV x1 := by
    unfold ivl isV
    by_cases e : x1 = 34
    · rw [if_pos e]
      exact ⟨fun z => absurd z (by decide), fun z => absurd (Or.inl e) z⟩
    · rw [if_neg e, iw_lit (za := 14) (zb := 20) (by decide) (by decide)]
      exact ⟨fun z w => w.elim e z, fun z w => z (Or.inr w)⟩
  have yes : canP w nm (cm o) o x1 → (1 : Int32) = bI (canP w nm (cm o) o x1) ∧ μ = μ := fun z => ⟨by rw [bI, if_pos z], rfl⟩
  have no : ¬ canP w nm (cm o) o x1 → (0 : Int32) = bI (canP w nm (cm o) o x1) ∧ μ = μ := fun z => ⟨by rw [bI, if_neg z], rfl⟩
  refine en_X1_canStand (fun Γ => bl_X1_canStand_0 (by decide) ?_)
  rw [h4, h5, h3, bB_0, bB_0, iw1, iw2, iv]
  have o0 : nI o ≤ 0 ↔ ¬ 0 < o := by
    have := nI_leI (a := o) (b := 0) (by omega) (by omega)
    rw [show (0 : Int32) = nI 0 from rfl, this]
    omega
  rw [o0]
  refine ⟨fun ew => ⟨fun n32 => ⟨fun z => bl_X1_canStand_2 (yes (Or.inr ⟨ew, Or.inr ⟨n32, Or.inl z⟩⟩)), fun n11 => ⟨fun z => bl_X1_canStand_2 (yes (Or.inr ⟨ew, Or.inr ⟨n32, Or.inr (Or.inl z)⟩⟩)), fun n12 => ⟨by omega, fun z => bl_X1_canStand_2 (yes (Or.inr ⟨ew, Or.inr ⟨n32, Or.inr (Or.inr (Or.inl (Decidable.not_not.mp z)))⟩⟩)), fun z => ⟨by omega, fun z2 => no ?_, fun z2 => ⟨o, by omega, rfl, ?_⟩⟩⟩⟩⟩, fun z32 => ⟨fun z => no ?_, fun z => yes (Or.inr ⟨ew, Or.inl ⟨z32, Decidable.not_not.mp z⟩⟩)⟩⟩, fun nw => ?_⟩
  · rintro (⟨a, -⟩ | ⟨-, ⟨a, -⟩ | ⟨-, a | a | a | a⟩⟩)
    · rw [ew] at a; exact absurd a (by decide)
    · exact n32 a
    · exact n11 a
    · exact n12 a
    · exact z a
    · exact z2 a.1
  · rw [h130 o (Nat.le_refl _), bB_0]
    refine ⟨fun z3 => no ?_, fun z3 => bl_X1_canStand_2 (yes (Or.inr ⟨ew, Or.inr ⟨n32, Or.inr (Or.inr (Or.inr ⟨Decidable.not_not.mp z2, z3⟩))⟩⟩))⟩
    rintro (⟨a, -⟩ | ⟨-, ⟨a, -⟩ | ⟨-, a | a | a | a⟩⟩)
    · rw [ew] at a; exact absurd a (by decide)
    · exact n32 a
    · exact n11 a
    · exact n12 a
    · exact z a
    · exact z3 a.2
  · rintro (⟨a, -⟩ | ⟨-, ⟨-, a⟩ | ⟨a, -⟩⟩)
    · rw [ew] at a; exact absurd a (by decide)
    · exact z a
    · exact a z32
  · have ew : w = true := by cases w; exact absurd rfl nw; rfl
    refine ⟨by omega, fun z => bl_X1_canStand_1 (yes (Or.inl ⟨ew, Or.inl (Decidable.not_not.mp z)⟩)), fun z => ⟨fun z31 => bl_X1_canStand_1 (yes (Or.inl ⟨ew, Or.inr (Or.inl z31)⟩)), fun n31 => ⟨fun n13 => no ?_, fun z13 => ⟨fun z5 => no ?_, fun z5 => bl_X1_canStand_1 (yes (Or.inl ⟨ew, Or.inr (Or.inr ⟨z13, by cases nm; exact absurd rfl z5; rfl⟩)⟩))⟩⟩⟩⟩
    · rintro (⟨-, a | a | a⟩ | ⟨a, -⟩)
      · exact z a
      · exact n31 a
      · exact n13 a.1
      · exact nw a
    · rintro (⟨-, a | a | a⟩ | ⟨a, -⟩)
      · exact z a
      · exact n31 a
      · rw [z5] at a; exact absurd a.2 (by decide)
      · exact nw a
theorem c_X1_isTooMuch {W : List Int32} {cm : Nat → Bool} {o : Nat} {w nm : Bool} {x1 x2 x3 : Int32} (hx : x3 = nI n) (hn : n ≤ 64) (h : fmC μ t W cm o w nm c f n) (ho : o ≤ 8) : Ctr l D d yX1_isTooMuch cX1_isTooMuch 4 (some .boolean) [.ref (D.2.2 1 0), .int x1, .int x2, .int x3] μ (pI (fun v μ' => v = bI (tooP o n x1 x2) ∧ μ' = μ)) := by
  obtain ⟨-, h3, -⟩ := h
  have yes : tooP o n x1 x2 → (1 : Int32) = bI (tooP o n x1 x2) ∧ μ = μ := fun z => ⟨by rw [bI, if_pos z], rfl⟩
  have no : ¬ tooP o n x1 x2 → (0 : Int32) = bI (tooP o n x1 x2) ∧ μ = μ := fun z => ⟨by rw [bI, if_neg z], rfl⟩
  refine en_X1_isTooMuch (fun Γ => bl_X1_isTooMuch_0 (by decide) ?_)
  have e64 : (64 : Int32) ≤ x3 ↔ 64 ≤ n := by rw [hx, show (64 : Int32) = nI 64 from rfl, nI_leI (by omega) (by omega)]
  have e8 : μ.1 1 0 3 < (8 : Int32) ↔ ¬ 8 ≤ o := by
    rw [h3, show (8 : Int32) = nI 8 from rfl, nI_ltI (by omega) (by omega)]
    omega
  have e9 : x2 ≤ (9999 : Int32) ↔ ¬ 9999 < x2.toInt := by
    rw [i32_le]
    have : (9999 : Int32).toInt = 9999 := by decide
    omega
  rw [e64, e8, e9]
  refine ⟨fun n31 => ⟨fun z => no ?_, fun n32 => ⟨fun z => bl_X1_isTooMuch_1 (yes (Or.inr ⟨n31, n32, Or.inl z⟩)), fun z => ⟨fun n34 => no ?_, fun z34 => ⟨fun z9 => no ?_, fun z9 => bl_X1_isTooMuch_1 (yes (Or.inr ⟨n31, n32, Or.inr ⟨z34, Decidable.not_not.mp z9⟩⟩))⟩⟩⟩⟩, fun z31 => ⟨fun z => no ?_, fun z => yes (Or.inl ⟨z31, Decidable.not_not.mp z⟩)⟩⟩
  · rintro (a | a)
    · exact n31 a.1
    · exact a.2.1 z
  · rintro (a | ⟨-, -, a | a⟩)
    · exact n31 a.1
    · exact z a
    · exact n34 a.1
  · rintro (a | ⟨-, -, a | a⟩)
    · exact n31 a.1
    · exact z a
    · exact z9 a.2
  · rintro (a | a)
    · exact z a.2
    · exact a.1 z31
end SC
