/-! TOKENS of the class -/
theorem i_or {W c k : Nat} (hc : c < 32) (hW : (W * 32 + c) * 2 ^ k < 2 ^ 32) : nI (W * 2 ^ (k + 5)) ||| nI (c * 2 ^ k) = nI ((W * 32 + c) * 2 ^ k) := by
  have e5 : 2 ^ (k + 5) = 32 * 2 ^ k := by rw [Nat.pow_add, Nat.mul_comm]
  have hs : (W * 32 + c) * 2 ^ k = 2 ^ (k + 5) * W + c * 2 ^ k := by rw [e5, Nat.add_mul, Nat.mul_comm (32 * 2 ^ k) W, Nat.mul_assoc]
  have hl : c * 2 ^ k < 2 ^ (k + 5) := by
    rw [e5]
    exact Nat.mul_lt_mul_of_pos_right hc (Nat.two_pow_pos k)
  have ho := Nat.two_pow_add_eq_or_of_lt hl W
  apply Int32.toBitVec_inj.mp
  apply BitVec.eq_of_toNat_eq
  have e : (nI (W * 2 ^ (k + 5)) ||| nI (c * 2 ^ k)).toBitVec.toNat = (nI (W * 2 ^ (k + 5))).toBitVec.toNat ||| (nI (c * 2 ^ k)).toBitVec.toNat := by
    rw [Int32.toBitVec_or, BitVec.toNat_or]
  rw [e, nI_tn, nI_tn, nI_tn, Nat.mod_eq_of_lt hW, Nat.mod_eq_of_lt (by rw [Nat.mul_comm]; omega), Nat.mod_eq_of_lt (by omega), hs, ho, Nat.mul_comm W]
theorem wv_lt {tb : Nat → Nat} {p e : Nat} (h : ∀ z, p ≤ z → z < e → ltr (tb z)) : ∀ n, wv tb p e n < 2 ^ (5 * n) := by
  intro n
  induction n with
  | zero => rw [wv]; omega
  | succ n ih =>
    rw [wv, show 5 * (n + 1) = 5 * n + 5 by omega, Nat.pow_add]
    have : (if p + n < e then tb (p + n) - 96 else 0) < 32 := by
      split
      · rename_i z
        have := h (p + n) (by omega) z
        have h2 : 97 ≤ tb (p + n) ∧ tb (p + n) ≤ 122 := this
        omega
      · omega
    omega
theorem wv_pad {tb : Nat → Nat} {p e n : Nat} (h : e ≤ p + n) : ∀ c, wv tb p e (n + c) = wv tb p e n * 2 ^ (5 * c) := by
  intro c
  induction c with
  | zero => rw [Nat.mul_zero, Nat.pow_zero, Nat.mul_one]; rfl
  | succ c ih =>
    show wv tb p e (n + c) * 32 + (if p + (n + c) < e then _ else 0) = _
    rw [if_neg (by omega), ih, show 5 * (c + 1) = 5 * c + 5 by omega, Nat.pow_add, Nat.add_zero, Nat.mul_assoc]
def wk (tb : Nat → Nat) (p e i : Nat) : Nat := wv tb p e (min i 6) * 2 ^ (30 - 5 * min i 6)
theorem wk_end {tb : Nat → Nat} {p e i : Nat} (h : e ≤ p + i) : wk tb p e i = wv tb p e 6 := by
  unfold wk
  by_cases h6 : 6 ≤ i
  · rw [Nat.min_eq_right h6, show 30 - 5 * 6 = 0 from rfl, Nat.pow_zero, Nat.mul_one]
  · rw [Nat.min_eq_left (by omega), show 30 - 5 * i = 5 * (6 - i) by omega, ← wv_pad h, show i + (6 - i) = 6 by omega]
theorem wk_step {tb : Nat → Nat} {p e i : Nat} (h : ∀ z, p ≤ z → z < e → ltr (tb z)) (hi : p + i < e) : nI (wk tb p e i) ||| (if 6 ≤ i then 0 else nI (tb (p + i) - 96) <<< nI (25 - 5 * i)) = nI (wk tb p e (i + 1)) := by
  have hb : 97 ≤ tb (p + i) ∧ tb (p + i) ≤ 122 := h (p + i) (by omega) hi
  unfold wk
  by_cases h6 : 6 ≤ i
  · rw [if_pos h6, Nat.min_eq_right h6, Nat.min_eq_right (by omega)]
    exact Int32.or_zero
  · rw [if_neg h6, Nat.min_eq_left (show i ≤ 6 by omega), Nat.min_eq_left (show i + 1 ≤ 6 by omega)]
    have hl := wv_lt h (i + 1)
    have hw : wv tb p e (i + 1) = wv tb p e i * 32 + (tb (p + i) - 96) := by rw [wv, if_pos hi]
    have hk : 30 - 5 * i = (25 - 5 * i) + 5 := by omega
    have hk2 : 30 - 5 * (i + 1) = 25 - 5 * i := by omega
    have hs : ((nI (25 - 5 * i)).toBitVec.smod 32).toNat = 25 - 5 * i := by
      have : ∀ j, j < 26 → ((nI j).toBitVec.smod 32).toNat = j := by decide
      exact this _ (by omega)
    have hp : (wv tb p e i * 32 + (tb (p + i) - 96)) * 2 ^ (25 - 5 * i) < 2 ^ 32 := by
      rw [← hw]
      have := Nat.mul_lt_mul_of_pos_right hl (Nat.two_pow_pos (25 - 5 * i))
      rw [← Nat.pow_add, show 5 * (i + 1) + (25 - 5 * i) = 30 by omega] at this
      omega
    have hp2 : (tb (p + i) - 96) * 2 ^ (25 - 5 * i) < 2 ^ 32 := by
      rw [Nat.add_mul] at hp
      omega
    rw [pk_shlN _ _ hs hp2, hk, hk2, hw]
    exact i_or (by omega) hp
/-- what the class's tokens read -/
def tkC (lg : Nat → Int32) (tb : Nat → Nat) (L : Nat) (μ : gMem) : Prop := μ.1 6 0 3 = nI L ∧ L ≤ 700 ∧ (∀ k, k < L → μ.1 448 0 k = sb (tb k) ∧ tb k < 256) ∧ ∀ z, z < 21 → μ.1 449 0 z = lg z
def nkF (μ μ' : gMem) : Prop := (∀ k j, ¬ (k = 6 ∧ j = 0) → μ'.1 k j = μ.1 k j) ∧ (∀ j, ¬ (4 ≤ j ∧ j ≤ 7) → μ'.1 6 0 j = μ.1 6 0 j) ∧ μ'.2 = μ.2
theorem nkF.rf {μ : gMem} : nkF μ μ := ⟨fun _ _ _ => rfl, fun _ _ => rfl, rfl⟩
theorem nkF.tr {μ μ1 μ2 : gMem} (h : nkF μ μ1) (h2 : nkF μ1 μ2) : nkF μ μ2 := ⟨fun k j a => (h2.1 k j a).trans (h.1 k j a), fun j a => (h2.2.1 j a).trans (h.2.1 j a), h2.2.2.trans h.2.2⟩
theorem nkF.put {μ μ1 : gMem} {j : Nat} {v : Int32} (h : nkF μ μ1) (hj : 4 ≤ j ∧ j ≤ 7) : nkF μ (gsI μ1 6 0 j v) := ⟨fun a b c => by rw [gsI_off (by omega)]; exact h.1 a b c, fun a c => by rw [gsI_at, if_neg (by omega)]; exact h.2.1 a c, h.2.2⟩
theorem tkC.of {lg : Nat → Int32} {tb : Nat → Nat} {L : Nat} {μ μ' : gMem} (h : tkC lg tb L μ) (hF : nkF μ μ') : tkC lg tb L μ' := by
  refine ⟨by rw [hF.2.1 3 (by omega)]; exact h.1, h.2.1, fun k hk => ?_, fun z hz => ?_⟩
  · rw [hF.1 448 0 (by omega)]; exact h.2.2.1 k hk
  · rw [hF.1 449 0 (by omega)]; exact h.2.2.2 z hz
section TC
variable {l : Launch} {D : gD} {d : Nat} {μ : gMem} {lg : Nat → Int32} {tb : Nat → Nat} {L : Nat}
theorem tkC.le {a : Nat} (h : tkC lg tb L μ) (ha : a ≤ L) (h4 : μ.1 6 0 4 = nI a) : μ.1 6 0 3 ≤ μ.1 6 0 4 ↔ ¬ a < L := by
  have := h.2.1
  rw [h.1, h4, nI_leI (by omega) (by omega)]
  omega
theorem c_X6_takes {a b : Nat} {x : Int32} (hx : x = nI b) (hb : b < 128) (h : tkC lg tb L μ) (ha : a ≤ L) (h4 : μ.1 6 0 4 = nI a) : Ctr l D d yX6_takes cX6_takes 2 (some .boolean) [.ref (D.2.2 6 0), .int x] μ (pI (fun v μ' => (v = if nxB tb L a = b then 1 else 0) ∧ nkF μ μ' ∧ μ'.1 6 0 4 = nI (if nxB tb L a = b then a + 1 else a) ∧ ∀ j, ¬ j = 4 → μ'.1 6 0 j = μ.1 6 0 j)) := by
  have h7 := h.2.1
  subst hx
  refine en_X6_takes (fun Γ => bl_X6_takes_0 (by decide) ?_)
  rw [h.le ha h4]
  unfold nxB
  refine ⟨fun z => ?_, fun z => ?_⟩
  · rw [if_neg z, if_neg (by omega), if_neg (by omega)]
    exact ⟨rfl, nkF.rf, h4, fun _ _ => rfl⟩
  · have z := Decidable.not_not.mp z
    refine ⟨a, by omega, h4, ?_⟩
    rw [(h.2.2.1 a z).1, sb_eq (h.2.2.1 a z).2 hb, if_pos z]
    refine ⟨fun w => ?_, fun w => ?_⟩
    · rw [if_neg w, if_neg w]
      exact ⟨rfl, nkF.rf, h4, fun _ _ => rfl⟩
    · rw [if_pos w, if_pos w, h4, nI_1]
      rintro _ rfl
      exact ⟨rfl, nkF.rf.put (by omega), gsI_s, fun j hj => by rw [gsI_at, if_neg (by omega)]⟩
theorem c_X6_readSign {a : Nat} (hd : 1 ≤ d) (h : tkC lg tb L μ) (ha : a < L) (h4 : μ.1 6 0 4 = nI a) : Ctr l D d yX6_readSign cX6_readSign 2 none [.ref (D.2.2 6 0)] μ (pV (fun μ' => nkF μ μ' ∧ μ'.1 6 0 4 = nI (a + sgL (tb a) (nxB tb L (a + 1))) ∧ μ'.1 6 0 5 = sgK (tb a) (nxB tb L (a + 1)) ∧ μ'.1 6 0 6 = μ.1 6 0 6 ∧ μ'.1 6 0 7 = μ.1 6 0 7)) := by
  have h7 := h.2.1
  have hb := h.2.2.1 a ha
  refine en_X6_readSign (fun Γ => bl_X6_readSign_0 (by decide) ⟨a, by omega, h4, ?_⟩)
  rintro x1 e1 μ3 e3
  have k : ∀ c, c < 128 → (x1 = nI c ↔ tb a = c) := fun c hc => by rw [e1, hb.1]; exact sb_eq hb.2 hc
  have F3 : nkF μ μ3 := by rw [e3]; exact nkF.rf.put (by omega)
  have s3 : μ3.1 6 0 4 = nI (a + 1) := by rw [e3, gsI_s, h4, nI_1]
  have o3 : ∀ j, ¬ j = 4 → μ3.1 6 0 j = μ.1 6 0 j := fun j hj => by rw [e3, gsI_at, if_neg (by omega)]
  generalize hx : nxB tb L (a + 1) = nx
  have fin : ∀ (v : Int32) (n : Nat) (μ1 μ2 : gMem), nkF μ3 μ1 → (∀ j, ¬ j = 4 → μ1.1 6 0 j = μ3.1 6 0 j) → μ1.1 6 0 4 = nI (a + n) → sgK (tb a) nx = v → sgL (tb a) nx = n → μ2 = gsI μ1 6 0 5 v → nkF μ μ2 ∧ μ2.1 6 0 4 = nI (a + sgL (tb a) nx) ∧ μ2.1 6 0 5 = sgK (tb a) nx ∧ μ2.1 6 0 6 = μ.1 6 0 6 ∧ μ2.1 6 0 7 = μ.1 6 0 7 := by
    rintro v n μ1 μ2 F1 o1 s1 ev en e2
    refine ⟨by rw [e2]; exact (F3.tr F1).put (by omega), by rw [e2, gsI_at, if_neg (by omega), s1, en], by rw [e2, gsI_s, ev], ?_, ?_⟩
    · rw [e2, gsI_at, if_neg (by omega), o1 6 (by omega), o3 6 (by omega)]
    · rw [e2, gsI_at, if_neg (by omega), o1 7 (by omega), o3 7 (by omega)]
  have one : ∀ (v : Int32) (μ2 : gMem), sgK (tb a) nx = v → sgL (tb a) nx = 1 → μ2 = gsI μ3 6 0 5 v → nkF μ μ2 ∧ μ2.1 6 0 4 = nI (a + sgL (tb a) nx) ∧ μ2.1 6 0 5 = sgK (tb a) nx ∧ μ2.1 6 0 6 = μ.1 6 0 6 ∧ μ2.1 6 0 7 = μ.1 6 0 7 := fun v μ2 ev en e2 => fin v 1 μ3 μ2 nkF.rf (fun _ _ => rfl) s3 ev en e2
  refine ⟨fun z μ2 e => one _ _ ?_ ?_ e, fun z μ2 e => one _ _ ?_ ?_ e, fun z μ2 e => one _ _ ?_ ?_ e, fun z μ2 e => one _ _ ?_ ?_ e, fun z μ2 e => one _ _ ?_ ?_ e, fun z μ2 e => one _ _ ?_ ?_ e, fun z μ2 e => one _ _ ?_ ?_ e, fun z => ?_, fun z μ2 e => one _ _ ?_ ?_ e, fun z => ?_, fun z μ2 e => one _ _ ?_ ?_ e⟩
  · rw [(k 40 (by omega)).mp z]; rfl
  · rw [(k 40 (by omega)).mp z]; rfl
  · rw [(k 41 (by omega)).mp z]; rfl
  · rw [(k 41 (by omega)).mp z]; rfl
  · rw [(k 42 (by omega)).mp z]; rfl
  · rw [(k 42 (by omega)).mp z]; rfl
  · rw [(k 43 (by omega)).mp z]; rfl
  · rw [(k 43 (by omega)).mp z]; rfl
  · rw [(k 45 (by omega)).mp z]; rfl
  · rw [(k 45 (by omega)).mp z]; rfl
  · rw [(k 47 (by omega)).mp z]; rfl
  · rw [(k 47 (by omega)).mp z]; rfl
  · rw [(k 59 (by omega)).mp z]; rfl
  · rw [(k 59 (by omega)).mp z]; rfl
  · have eb := (k 60 (by omega)).mp z
    refine ⟨0, _, by omega, c_X6_takes (b := 61) rfl (by omega) (h.of F3) (by omega) s3, ?_⟩
    rw [hx]
    rintro v μ1 ⟨ev, F1, s1, o1⟩
    by_cases w : nx = 61
    · rw [if_pos w] at ev s1
      rw [ev]
      refine ⟨fun z => absurd z (by decide), fun _ => bl_X6_readSign_1 (by decide) (fun μ2 e => fin _ 2 _ _ F1 o1 s1 ?_ ?_ e)⟩
      · rw [eb, w]; rfl
      · rw [eb, w]; rfl
    · rw [if_neg w] at ev s1
      rw [ev]
      refine ⟨fun _ => ⟨0, _, by omega, c_X6_takes (b := 62) rfl (by omega) ((h.of F3).of F1) (by omega) s1, ?_⟩, fun z => absurd rfl z⟩
      rw [hx]
      rintro v2 μ4 ⟨ev4, F4, s4, o4⟩
      have o5 : ∀ j, ¬ j = 4 → μ4.1 6 0 j = μ3.1 6 0 j := fun j hj => (o4 j hj).trans (o1 j hj)
      by_cases w2 : nx = 62
      · rw [if_pos w2] at ev4 s4
        rw [ev4]
        refine ⟨fun z => absurd z (by decide), fun _ => bl_X6_readSign_1 (by decide) (fun μ2 e => fin _ 2 _ _ (F1.tr F4) o5 s4 ?_ ?_ e)⟩
        · rw [eb, w2]; rfl
        · rw [eb, w2]; rfl
      · rw [if_neg w2] at ev4 s4
        rw [ev4]
        refine ⟨fun _ => bl_X6_readSign_1 (by decide) (fun μ2 e => fin _ 1 _ _ (F1.tr F4) o5 s4 ?_ ?_ e), fun z => absurd rfl z⟩
        · rw [eb, sgK, if_pos rfl, if_neg w, if_neg w2]
        · rw [eb, sgL, if_neg (by omega)]
  · rw [(k 61 (by omega)).mp z]; rfl
  · rw [(k 61 (by omega)).mp z]; rfl
  · have eb := (k 62 (by omega)).mp z
    refine ⟨0, _, by omega, c_X6_takes (b := 61) rfl (by omega) (h.of F3) (by omega) s3, ?_⟩
    rw [hx]
    rintro v μ1 ⟨ev, F1, s1, o1⟩
    by_cases w : nx = 61
    · rw [if_pos w] at ev s1
      rw [ev]
      refine ⟨fun z => absurd z (by decide), fun _ => bl_X6_readSign_2 (by decide) (fun μ2 e => fin _ 2 _ _ F1 o1 s1 ?_ ?_ e)⟩
      · rw [eb, w]; rfl
      · rw [eb, w]; rfl
    · rw [if_neg w] at ev s1
      rw [ev]
      refine ⟨fun _ => bl_X6_readSign_2 (by decide) (fun μ2 e => fin _ 1 _ _ F1 o1 s1 ?_ ?_ e), fun z => absurd rfl z⟩
      · rw [eb, sgK, if_neg (by omega), if_pos rfl, if_neg w]
      · rw [eb, sgL, if_neg (by omega)]
  · obtain ⟨n0, n1, n2, n3, n5, n7, n9, n60, n61, n62⟩ := z
    have q : ∀ c, c < 128 → ¬ x1 = nI c → ¬ tb a = c := fun c hc n w => n ((k c hc).mpr w)
    rw [sgK, if_neg (q 60 (by omega) n60), if_neg (q 62 (by omega) n62), if_neg (q 61 (by omega) n61), if_neg (q 43 (by omega) n3), if_neg (q 45 (by omega) n5), if_neg (q 42 (by omega) n2), if_neg (q 47 (by omega) n7), if_neg (q 40 (by omega) n0), if_neg (q 41 (by omega) n1), if_neg (q 59 (by omega) n9)]
  · obtain ⟨n0, n1, n2, n3, n5, n7, n9, n60, n61, n62⟩ := z
    have q : ∀ c, c < 128 → ¬ x1 = nI c → ¬ tb a = c := fun c hc n w => n ((k c hc).mpr w)
    have := q 60 (by omega) n60
    have := q 62 (by omega) n62
    rw [sgL, if_neg (by omega)]
theorem imin_n {a b : Nat} (ha : a < 2 ^ 31) (hb : b < 2 ^ 31) : imin (nI a) (nI b) = nI (min a b) := by
  unfold imin
  by_cases h : b < a
  · rw [if_pos ((nI_ltI hb ha).mpr h), Nat.min_eq_right (by omega)]
  · rw [if_neg (fun w => h ((nI_ltI hb ha).mp w)), Nat.min_eq_left (by omega)]
theorem readNumber_0 {Γ : gC} {q : gMem → Prop} {e V : Nat} {μ0 : gMem} (hd : 1 ≤ d) (h : tkC lg tb L μ0) (hq : ∀ μ', nkF μ0 μ' → (∀ j, j = 5 ∨ j = 6 → μ'.1 6 0 j = μ0.1 6 0 j) → μ'.1 6 0 4 = nI e → μ'.1 6 0 7 = nI V → pt_X6_readNumber_1 l D d q Γ 0 μ') :
    ∀ (c a x : Nat) (μ : gMem), a + c = L → nkF μ0 μ → (∀ j, j = 5 ∨ j = 6 → μ.1 6 0 j = μ0.1 6 0 j) → μ.1 6 0 4 = nI a → μ.1 6 0 7 = nI x → x ≤ 1000000 → runE dgs tb L a = e → numC tb (e - a) a x = V → pt_X6_readNumber_0 l D d q Γ 0 μ := by
  intro c
  induction c with
  | zero =>
    intro a x μ hc hF hk h4 h7 hx he hV
    have hT := h.of hF
    rw [runE_stop (by omega)] at he
    subst he
    rw [Nat.sub_self] at hV
    refine bl_X6_readNumber_0 (by decide) ⟨fun _ => hq μ hF hk h4 (by rw [h7]; exact congrArg nI hV), fun z => absurd ((hT.le (by omega) h4).mpr (by omega)) z⟩
  | succ c ih =>
    intro a x μ hc hF hk h4 h7 hx he hV
    have hT := h.of hF
    have h700 := h.2.1
    have hb := hT.2.2.1 a (by omega)
    have hiw : iw (μ.1 448 0 a) (48 : Int32) (57 : Int32) = 0 ↔ ¬ dgs (tb a) := by
      rw [hb.1]
      exact sb_iw (lo := 48) (hi := 57) hb.2 (by omega) (by omega) (by omega)
    refine bl_X6_readNumber_0 (by decide) ⟨fun z => absurd ((hT.le (by omega) h4).mp z) (by omega), fun _ => ⟨a, by omega, h4, by omega, ?_⟩⟩
    rw [hiw]
    refine ⟨fun z => ?_, fun z => ?_⟩
    · rw [runE_stop (fun w => z w.2)] at he
      subst he
      rw [Nat.sub_self] at hV
      exact hq μ hF hk h4 (by rw [h7]; exact congrArg nI hV)
    · have z : dgs (tb a) := Decidable.not_not.mp z
      have z2 : 48 ≤ tb a ∧ tb a ≤ 57 := z
      rw [runE_step ⟨by omega, z⟩] at he
      have hge : a + 1 ≤ e := by rw [← he]; exact runE_ge (a + 1)
      refine ⟨a, by omega, h4, by omega, ?_⟩
      have ev : imin (1000000 : Int32) (μ.1 6 0 7 * (10 : Int32) + μ.1 448 0 a - (48 : Int32)) = nI (min 1000000 (x * 10 + (tb a - 48))) := by
        rw [h7, hb.1, sb_n (by omega), show (10 : Int32) = nI 10 from rfl, pk_mul, nI_add, show (48 : Int32) = nI 48 from rfl, pk_sub (by omega), show (1000000 : Int32) = nI 1000000 from rfl, imin_n (by omega) (by omega), show x * 10 + tb a - 48 = x * 10 + (tb a - 48) by omega]
      rw [ev]
      rintro μ1 e1 μ2 e2
      have g4 : μ1.1 6 0 4 = nI a := by rw [e1, gsI_at, if_neg (by omega)]; exact h4
      rw [g4, nI_1] at e2
      refine ih (a + 1) (min 1000000 (x * 10 + (tb a - 48))) μ2 (by omega) (by rw [e2, e1]; exact (hF.put (by omega)).put (by omega)) (fun j hj => ?_) (by rw [e2, gsI_s]) (by rw [e2, gsI_at, if_neg (by omega), e1, gsI_s]) (by omega) he ?_
      · rw [e2, gsI_at, if_neg (by omega), e1, gsI_at, if_neg (by omega)]
        exact hk j hj
      · rw [← hV, show e - a = (e - (a + 1)) + 1 by omega]
        rfl
theorem c_X6_readNumber {a : Nat} (hd : 1 ≤ d) (h : tkC lg tb L μ) (ha : a ≤ L) (h4 : μ.1 6 0 4 = nI a) (h7 : μ.1 6 0 7 = 0) : Ctr l D d yX6_readNumber cX6_readNumber 1 none [.ref (D.2.2 6 0)] μ (pV (fun μ' => nkF μ μ' ∧ μ'.1 6 0 4 = nI (runE dgs tb L a) ∧ μ'.1 6 0 5 = 34 ∧ μ'.1 6 0 6 = μ.1 6 0 6 ∧ μ'.1 6 0 7 = nI (numC tb (runE dgs tb L a - a) a 0))) := by
  refine en_X6_readNumber (fun Γ => readNumber_0 hd h (e := runE dgs tb L a) (V := numC tb (runE dgs tb L a - a) a 0) ?_ (L - a) a 0 μ (by omega) nkF.rf (fun _ _ => rfl) h4 h7 (by omega) rfl rfl)
  intro μ1 F1 k1 s4 s7
  refine bl_X6_readNumber_1 (by decide) ?_
  rintro μ2 e2
  refine ⟨by rw [e2]; exact F1.put (by omega), by rw [e2, gsI_at, if_neg (by omega)]; exact s4, by rw [e2, gsI_s], by rw [e2, gsI_at, if_neg (by omega)]; exact k1 6 (by omega), by rw [e2, gsI_at, if_neg (by omega)]; exact s7⟩
theorem c_X6_letterBits {x0 x1 : Int32} {b i : Nat} (h0 : x0 = nI b) (h1 : x1 = nI i) (hb : ltr b) (hi : i < 1000) : Ctr l D d yX6_letterBits cX6_letterBits 2 (some .int) [.int x0, .int x1] μ (pI (fun v μ' => (v = if 6 ≤ i then 0 else nI (b - 96) <<< nI (25 - 5 * i)) ∧ μ' = μ)) := by
  have hb2 : 97 ≤ b ∧ b ≤ 122 := hb
  subst h0 h1
  refine en_X6_letterBits (fun Γ => bl_X6_letterBits_0 ?_)
  rw [show (6 : Int32) = nI 6 from rfl, nI_leI (by omega) (by omega)]
  refine ⟨fun z => ⟨by rw [if_pos z], rfl⟩, fun z => ⟨?_, rfl⟩⟩
  rw [if_neg z, show (97 : Int32) = nI 97 from rfl, pk_sub (by omega), nI_1, show (5 : Int32) = nI 5 from rfl, pk_mul, show (25 : Int32) = nI 25 from rfl, pk_sub (by omega), pk_andN (by omega) 5 (by decide), Nat.mod_eq_of_lt (by omega), show b - 97 + 1 = b - 96 by omega]
theorem readWord_1 {Γ : gC} {q : gMem → Prop} {p e : Nat} {μ0 : gMem} (hd : 1 ≤ d) (h : tkC lg tb L μ0) (he : runE ltr tb L p = e) (hq : ∀ μ', nkF μ0 μ' → μ'.1 6 0 6 = μ0.1 6 0 6 → μ'.1 6 0 4 = nI e → μ'.1 6 0 7 = nI (wv tb p e 6) → pt_X6_readWord_2 l D d q Γ 0 (nI (e - p)) μ') :
    ∀ (c i : Nat) (μ : gMem), p + i + c = L → nkF μ0 μ → μ.1 6 0 6 = μ0.1 6 0 6 → μ.1 6 0 4 = nI (p + i) → μ.1 6 0 7 = nI (wk tb p e i) → runE ltr tb L (p + i) = e → pt_X6_readWord_1 l D d q Γ 0 (nI i) μ := by
  have hl : ∀ z, p ≤ z → z < e → ltr (tb z) := fun z h1 h2 => (runE_in h1 (by rw [he]; exact h2)).2
  have h700 := h.2.1
  have stop : ∀ (i : Nat) (μ : gMem), nkF μ0 μ → μ.1 6 0 6 = μ0.1 6 0 6 → μ.1 6 0 4 = nI (p + i) → μ.1 6 0 7 = nI (wk tb p e i) → runE ltr tb L (p + i) = e → ¬ (p + i < L ∧ ltr (tb (p + i))) → pt_X6_readWord_2 l D d q Γ 0 (nI i) μ := by
    intro i μ hF hk h4 h7 he2 hn
    rw [runE_stop hn] at he2
    rw [show i = e - p by omega]
    refine hq μ hF hk (by rw [h4, he2]) ?_
    rw [h7, wk_end (by omega)]
  intro c
  induction c with
  | zero =>
    intro i μ hc hF hk h4 h7 he2
    have hT := h.of hF
    exact bl_X6_readWord_1 (by decide) ⟨fun _ => stop i μ hF hk h4 h7 he2 (by omega), fun z => absurd ((hT.le (by omega) h4).mpr (by omega)) z⟩
  | succ c ih =>
    intro i μ hc hF hk h4 h7 he2
    have hT := h.of hF
    have hb := hT.2.2.1 (p + i) (by omega)
    have hiw : iw (μ.1 448 0 (p + i)) (97 : Int32) (122 : Int32) = 0 ↔ ¬ ltr (tb (p + i)) := by
      rw [hb.1]
      exact sb_iw (lo := 97) (hi := 122) hb.2 (by omega) (by omega) (by omega)
    refine bl_X6_readWord_1 (by decide) ⟨fun z => absurd ((hT.le (by omega) h4).mp z) (by omega), fun _ => ⟨p + i, by omega, h4, by omega, ?_⟩⟩
    rw [hiw]
    refine ⟨fun z => stop i μ hF hk h4 h7 he2 (fun w => z w.2), fun z => ?_⟩
    have z : ltr (tb (p + i)) := Decidable.not_not.mp z
    have z2 : 97 ≤ tb (p + i) ∧ tb (p + i) ≤ 122 := z
    have hlt : p + i < e := by
      rw [runE_step ⟨by omega, z⟩] at he2
      have := runE_ge (P := ltr) (tb := tb) (L := L) (p + i + 1)
      omega
    refine ⟨p + i, by omega, h4, 0, _, by omega, c_X6_letterBits (b := tb (p + i)) (i := i) (by rw [hb.1, sb_n (by omega)]) rfl z (by omega), ?_⟩
    rintro v μ1 ⟨ev, em⟩
    rw [em, h7, ev, wk_step hl hlt, nI_1]
    rintro μ2 e2 _ rfl μ3 e3
    have g4 : μ2.1 6 0 4 = nI (p + i) := by rw [e2, gsI_at, if_neg (by omega)]; exact h4
    rw [g4, nI_1] at e3
    refine ih (i + 1) μ3 (by omega) (by rw [e3, e2]; exact (hF.put (by omega)).put (by omega)) ?_ (by rw [e3, gsI_s, Nat.add_assoc]) (by rw [e3, gsI_at, if_neg (by omega), e2, gsI_s]) ?_
    · rw [e3, gsI_at, if_neg (by omega), e2, gsI_at, if_neg (by omega)]
      exact hk
    · rw [← Nat.add_assoc, ← runE_step ⟨by omega, z⟩]
      exact he2
/-- kind and value of a word -/
noncomputable def wdK (lg : Nat → Int32) (tb : Nat → Nat) (p e : Nat) : Int32 := if 6 < e - p then 37 else if tkW lg tb p e = -1 then 35 else tkW lg tb p e
theorem c_X6_readWord {p : Nat} (hd : 1 ≤ d) (h : tkC lg tb L μ) (ha : p ≤ L) (h4 : μ.1 6 0 4 = nI p) (h7 : μ.1 6 0 7 = 0) : Ctr l D d yX6_readWord cX6_readWord 3 none [.ref (D.2.2 6 0)] μ (pV (fun μ' => nkF μ μ' ∧ μ'.1 6 0 4 = nI (runE ltr tb L p) ∧ μ'.1 6 0 5 = wdK lg tb p (runE ltr tb L p) ∧ μ'.1 6 0 6 = μ.1 6 0 6 ∧ μ'.1 6 0 7 = nI (wv tb p (runE ltr tb L p) 6))) := by
  have h700 := h.2.1
  have hle := runE_le (P := ltr) (tb := tb) ha
  refine en_X6_readWord (fun Γ => bl_X6_readWord_0 (by decide) ?_)
  rintro _ rfl
  generalize he : runE ltr tb L p = e
  rw [he] at hle
  refine readWord_1 hd h he ?_ (L - p) 0 μ (by omega) nkF.rf rfl h4 (by rw [h7]; unfold wk wv; rw [Nat.min_eq_left (by omega)]; simp [wv]; rfl) he
  intro μ1 F1 k1 s4 s7
  refine bl_X6_readWord_2 (by decide) ?_
  rintro μ2 e2
  have F2 : nkF μ μ2 := by rw [e2]; exact F1.put (by omega)
  have g : ∀ j, ¬ j = 5 → μ2.1 6 0 j = μ1.1 6 0 j := fun j hj => by rw [e2, gsI_at, if_neg (by omega)]
  have s5 : μ2.1 6 0 5 = 35 := by rw [e2, gsI_s]
  clear e2
  have T2 := h.of F2
  rw [show (6 : Int32) = nI 6 from rfl, nI_leI (by omega) (by omega)]
  refine ⟨fun z => ?_, fun z => ?_⟩
  · have hw : fndL (μ2.1 449 0) (μ2.1 6 0 7) 21 0 = tkW lg tb p e := by
      rw [g 7 (by omega), s7, tkW, if_neg (by omega)]
      exact fndL_cong 21 0 (fun k _ hk => T2.2.2.2 k (by omega))
    refine ⟨0, _, by omega, c_X9_placeOf (k1 := 449) (i1 := 0) (L := 21) (m := 21) rfl (by decide) (by decide) (by decide) (by omega) (by omega), ?_⟩
    rw [hw]
    rintro v μ3 ⟨ev, em⟩ x2 ex
    rw [em, ex, ev]
    refine ⟨fun w => ⟨F2, by rw [g 4 (by omega)]; exact s4, by rw [s5, wdK, if_neg (by omega), if_pos w], by rw [g 6 (by omega)]; exact k1, by rw [g 7 (by omega)]; exact s7⟩, fun w => ?_⟩
    rintro μ4 e4
    refine ⟨by rw [e4]; exact F2.put (by omega), ?_, ?_, ?_, ?_⟩
    · rw [e4, gsI_at, if_neg (by omega), g 4 (by omega)]; exact s4
    · rw [e4, gsI_s, wdK, if_neg (by omega), if_neg w]
    · rw [e4, gsI_at, if_neg (by omega), g 6 (by omega)]; exact k1
    · rw [e4, gsI_at, if_neg (by omega), g 7 (by omega)]; exact s7
  · rintro μ4 e4
    refine ⟨by rw [e4]; exact F2.put (by omega), ?_, ?_, ?_, ?_⟩
    · rw [e4, gsI_at, if_neg (by omega), g 4 (by omega)]; exact s4
    · rw [e4, gsI_s, wdK, if_pos (by omega)]
    · rw [e4, gsI_at, if_neg (by omega), g 6 (by omega)]; exact k1
    · rw [e4, gsI_at, if_neg (by omega), g 7 (by omega)]; exact s7
/-- the class stands at the token at p -/
def atC (lg : Nat → Int32) (tb : Nat → Nat) (L p : Nat) (μ : gMem) : Prop := μ.1 6 0 4 = nI (tkF lg tb L p).1 ∧ μ.1 6 0 5 = (tkF lg tb L p).2.1 ∧ μ.1 6 0 6 = nI p ∧ μ.1 6 0 7 = (tkF lg tb L p).2.2.1
theorem sgL_le {b nx : Nat} : 1 ≤ sgL b nx ∧ sgL b nx ≤ 2 ∧ (sgL b nx = 2 → nx = 61 ∨ nx = 62) := by
  unfold sgL
  split
  · refine ⟨by omega, by omega, fun _ => by omega⟩
  · omega
theorem tkF_le {p : Nat} (h : p ≤ L) : (tkF lg tb L p).1 ≤ L := by
  unfold tkF
  split
  · exact h
  split
  · exact runE_le h
  split
  · exact runE_le h
  · show p + sgL _ _ ≤ L
    have := sgL_le (b := tb p) (nx := nxB tb L (p + 1))
    by_cases w : p + 1 < L
    · omega
    · have e : nxB tb L (p + 1) = 999 := by rw [nxB, if_neg w]
      rw [e] at this ⊢
      omega
theorem next_0 {Γ : gC} {q : gMem → Prop} {p : Nat} {μ0 : gMem} (h : tkC lg tb L μ0) (hq : ∀ μ', nkF μ0 μ' → μ'.1 6 0 4 = nI p → pt_X6_next_2 l D d q Γ 0 μ') :
    ∀ (c a : Nat) (μ : gMem), a + c = L → nkF μ0 μ → μ.1 6 0 4 = nI a → runE spc tb L a = p → pt_X6_next_0 l D d q Γ 0 μ := by
  have h700 := h.2.1
  intro c
  induction c with
  | zero =>
    intro a μ hc hF h4 hp
    have hT := h.of hF
    rw [runE_stop (by omega)] at hp
    subst hp
    exact bl_X6_next_0 (by decide) ⟨fun _ => hq μ hF h4, fun z => absurd ((hT.le (by omega) h4).mpr (by omega)) z⟩
  | succ c ih =>
    intro a μ hc hF h4 hp
    have hT := h.of hF
    have hb := hT.2.2.1 a (by omega)
    have e32 : μ.1 448 0 a = (32 : Int32) ↔ tb a = 32 := by rw [hb.1]; exact sb_eq (c := 32) hb.2 (by omega)
    have e10 : μ.1 448 0 a = (10 : Int32) ↔ tb a = 10 := by rw [hb.1]; exact sb_eq (c := 10) hb.2 (by omega)
    have on : spc (tb a) → pt_X6_next_1 l D d q Γ 0 μ := by
      intro w
      refine bl_X6_next_1 (by decide) ?_
      rintro μ1 e1
      rw [h4, nI_1] at e1
      refine ih (a + 1) μ1 (by omega) (by rw [e1]; exact hF.put (by omega)) (by rw [e1, gsI_s]) ?_
      rw [← runE_step ⟨by omega, w⟩]
      exact hp
    refine bl_X6_next_0 (by decide) ⟨fun z => absurd ((hT.le (by omega) h4).mp z) (by omega), fun _ => ⟨a, by omega, h4, ?_⟩⟩
    rw [e32]
    refine ⟨fun z => on (Or.inr z), fun z => ⟨a, by omega, h4, ?_⟩⟩
    rw [e10]
    refine ⟨fun w => ?_, fun w => on (Or.inl w)⟩
    rw [runE_stop (fun k => k.2.elim w z)] at hp
    subst hp
    exact hq μ hF h4
theorem c_X6_next {a : Nat} (hd : 2 ≤ d) (h : tkC lg tb L μ) (ha : a ≤ L) (h4 : μ.1 6 0 4 = nI a) : Ctr l D d yX6_next cX6_next 1 none [.ref (D.2.2 6 0)] μ (pV (fun μ' => nkF μ μ' ∧ atC lg tb L (tkP tb L a) μ')) := by
  have h700 := h.2.1
  have hple : tkP tb L a ≤ L := runE_le ha
  refine en_X6_next (fun Γ => next_0 (p := tkP tb L a) h ?_ (L - a) a μ (by omega) nkF.rf h4 rfl)
  generalize hp : tkP tb L a = p
  rw [hp] at hple
  intro μ1 F1 s4
  refine bl_X6_next_2 (by decide) ?_
  rintro μ2 e2 μ3 e3
  have F3 : nkF μ μ3 := by rw [e3, e2]; exact (F1.put (by omega)).put (by omega)
  have T3 := h.of F3
  have t4 : μ3.1 6 0 4 = nI p := by rw [e3, gsI_at, if_neg (by omega), e2, gsI_at, if_neg (by omega)]; exact s4
  have t6 : μ3.1 6 0 6 = nI p := by rw [e3, gsI_at, if_neg (by omega), e2, gsI_s]; exact s4
  have t7 : μ3.1 6 0 7 = 0 := by rw [e3, gsI_s]
  clear e2 e3
  have lt : μ3.1 6 0 4 < μ3.1 6 0 3 ↔ p < L := by rw [T3.1, t4, nI_ltI (by omega) (by omega)]
  rw [lt]
  unfold atC
  refine ⟨fun z => ?_, fun z => ?_⟩
  · have hb := T3.2.2.1 p z
    have il : iw (μ3.1 448 0 p) (97 : Int32) (122 : Int32) = 0 ↔ ¬ ltr (tb p) := by
      rw [hb.1]
      exact sb_iw (lo := 97) (hi := 122) hb.2 (by omega) (by omega) (by omega)
    have id : iw (μ3.1 448 0 p) (48 : Int32) (57 : Int32) = 0 ↔ ¬ dgs (tb p) := by
      rw [hb.1]
      exact sb_iw (lo := 48) (hi := 57) hb.2 (by omega) (by omega) (by omega)
    refine ⟨p, by omega, t4, by omega, ?_⟩
    rw [il]
    refine ⟨fun z1 => ⟨p, by omega, t4, by omega, ?_⟩, fun z1 => ?_⟩
    · rw [id]
      refine ⟨fun z2 => ?_, fun z2 => ?_⟩
      · refine ⟨1, _, by omega, c_X6_readSign (by omega) T3 z t4, ?_⟩
        rw [tkF, if_neg (by omega), if_neg z1, if_neg z2]
        rintro μ4 ⟨F4, u4, u5, u6, u7⟩
        exact ⟨F3.tr F4, u4, u5, by rw [u6]; exact t6, by rw [u7]; exact t7⟩
      · refine ⟨1, _, by omega, c_X6_readNumber (by omega) T3 hple t4 t7, ?_⟩
        rw [tkF, if_neg (by omega), if_neg z1, if_pos (Decidable.not_not.mp z2)]
        rintro μ4 ⟨F4, u4, u5, u6, u7⟩
        exact ⟨F3.tr F4, u4, u5, by rw [u6]; exact t6, u7⟩
    · refine ⟨1, _, by omega, c_X6_readWord (by omega) T3 hple t4 t7, ?_⟩
      rw [tkF, if_neg (by omega), if_pos (Decidable.not_not.mp z1)]
      rintro μ4 ⟨F4, u4, u5, u6, u7⟩
      exact ⟨F3.tr F4, u4, u5, by rw [u6]; exact t6, u7⟩
  · rintro μ4 e4
    rw [tkF, if_pos z]
    exact ⟨by rw [e4]; exact F3.put (by omega), by rw [e4, gsI_at, if_neg (by omega)]; exact t4, by rw [e4, gsI_s], by rw [e4, gsI_at, if_neg (by omega)]; exact t6, by rw [e4, gsI_at, if_neg (by omega)]; exact t7⟩
/-- the place of the token after the one at p -/
noncomputable def nxP (lg : Nat → Int32) (tb : Nat → Nat) (L p : Nat) : Nat := tkP tb L (tkF lg tb L p).1
theorem nxP_le {p : Nat} (h : p ≤ L) : nxP lg tb L p ≤ L := runE_le (tkF_le h)
theorem c_next {p : Nat} (hd : 2 ≤ d) (h : tkC lg tb L μ) (hp : p ≤ L) (ha : atC lg tb L p μ) : Ctr l D d yX6_next cX6_next 1 none [.ref (D.2.2 6 0)] μ (pV (fun μ' => nkF μ μ' ∧ atC lg tb L (nxP lg tb L p) μ')) := c_X6_next hd h (tkF_le hp) ha.1
end TC
