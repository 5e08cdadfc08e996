/-! LINES of the reference: its draft -/
theorem i_or2 {a b : Nat} (ha : a < 2 ^ 20) (hb : b < 2 ^ 20) : nI a ||| nI b = nI (a ||| b) := by
  have hc : a ||| b < 2 ^ 20 := Nat.or_lt_two_pow ha hb
  apply Int32.toBitVec_inj.mp
  apply BitVec.eq_of_toNat_eq
  have e : (nI a ||| nI b).toBitVec.toNat = (nI a).toBitVec.toNat ||| (nI b).toBitVec.toNat := by
    rw [Int32.toBitVec_or, BitVec.toNat_or]
  rw [e, nI_tn, nI_tn, nI_tn, Nat.mod_eq_of_lt (by omega), Nat.mod_eq_of_lt (by omega), Nat.mod_eq_of_lt (by omega)]
theorem sh_w : ∀ w, w < 20 → ((nI w &&& 31).toBitVec.smod 32).toNat = w := by decide
theorem bt_is {B w : Nat} (hB : B < 2 ^ 20) (hw : w < 20) : ((nI B >>> (nI w &&& 31)) &&& (1 : Int32)) = (1 : Int32) ↔ B.testBit w = true := by
  rw [pk_shrN (by omega) _ w (sh_w w hw), pk_andN (Nat.lt_of_le_of_lt (Nat.div_le_self _ _) (by omega)) 1 (by decide), show (1 : Int32) = nI 1 from rfl, nI_eq (by omega) (by omega), Nat.testBit_eq_decide_div_mod_eq, decide_eq_true_iff]
theorem bt_up {B w : Nat} (hB : B < 2 ^ 20) (hw : w < 20) : nI B ||| ((1 : Int32) <<< (nI w &&& 31)) = nI (B ||| 2 ^ w) ∧ B ||| 2 ^ w < 2 ^ 20 := by
  have h2 : 2 ^ w < 2 ^ 20 := Nat.pow_lt_pow_right (by omega) hw
  have e : (1 : Int32) <<< (nI w &&& 31) = nI (1 * 2 ^ w) := pk_shlN (n := 1) _ w (sh_w w hw) (by omega)
  rw [e, Nat.one_mul, i_or2 hB h2]
  exact ⟨rfl, Nat.or_lt_two_pow hB h2⟩
theorem bt_at {B w k : Nat} : (B ||| 2 ^ w).testBit k = (B.testBit k || decide (w = k)) := by
  rw [Nat.testBit_or, Nat.testBit_two_pow]
/-- where the draft's half begins -/
def hf (k : Nat) : Nat := if k = 707 then 10 else if k ≤ 711 then 5 else if k ≤ 715 then 6 else if k = 716 then 30 else if k ≤ 718 then 3 else 64
/-- what a line of the reference may change -/
def lmF (μ μ' : gMem) : Prop := (∀ k j, ¬ (j = 0 ∧ (k = 10 ∨ (707 ≤ k ∧ k ≤ 720))) → μ'.1 k j = μ.1 k j) ∧ (∀ j, ¬ (j = 17 ∨ j = 18 ∨ (20 ≤ j ∧ j ≤ 25) ∨ j = 28 ∨ j = 29) → μ'.1 10 0 j = μ.1 10 0 j) ∧ (∀ k, 707 ≤ k → k ≤ 720 → ∀ z, z < hf k → μ'.1 k 0 z = μ.1 k 0 z) ∧ μ'.2 = μ.2 ∧ kf μ μ'
theorem lmF.rf {μ : gMem} : lmF μ μ := ⟨fun _ _ _ => rfl, fun _ _ => rfl, fun _ _ _ _ _ => rfl, rfl, kf.rf⟩
theorem lmF.tr {μ μ1 μ2 : gMem} (h : lmF μ μ1) (h2 : lmF μ1 μ2) : lmF μ μ2 := ⟨fun k j a => (h2.1 k j a).trans (h.1 k j a), fun j a => (h2.2.1 j a).trans (h.2.1 j a), fun k a b z c => (h2.2.2.1 k a b z c).trans (h.2.2.1 k a b z c), h2.2.2.2.1.trans h.2.2.2.1, h.2.2.2.2.tr h2.2.2.2.2⟩
theorem rwF.m {μ μ' : gMem} (h : rwF μ μ') : lmF μ μ' := ⟨fun k j a => h.1 k j (by omega), fun j a => h.2.1 j (by omega), fun k a b z _ => by rw [h.1 k 0 (by omega)], h.2.2⟩
theorem rdF.m {μ μ' : gMem} (h : rdF μ μ') : lmF μ μ' := by
  refine ⟨fun k j a => h.1 k j (by omega), fun j a => h.2.1 j (by omega) (by omega) (by omega), fun k a b z hz => ?_, h.2.2.2.2⟩
  unfold hf at hz
  by_cases e1 : k = 707
  · rw [if_pos e1] at hz; rw [e1]; exact h.2.2.1 z (by omega)
  by_cases e2 : k = 719
  · rw [e2] at hz ⊢; exact (h.2.2.2.1 z hz).1
  by_cases e3 : k = 720
  · rw [e3] at hz ⊢; exact (h.2.2.2.1 z hz).2
  rw [h.1 k 0 (by omega)]
theorem lmF.p {k j : Nat} {μ μ1 : gMem} {v : Int32} (h : lmF μ μ1) (hk : 707 ≤ k ∧ k ≤ 720) (hj : hf k ≤ j) : lmF μ (gsI μ1 k 0 j v) := by
  refine h.tr ⟨fun a b x => gsI_off (by omega), fun a _ => by rw [gsI_off (by omega)], fun a x y z hz => ?_, rfl, kf.of (fun a ha => by rw [gsI_off (by omega)])⟩
  rw [gsI_at, if_neg (fun w => ?_)]
  obtain ⟨w1, -, w3⟩ := w
  rw [w1] at hz
  omega
theorem lmF.p10 {j : Nat} {μ μ1 : gMem} {v : Int32} (h : lmF μ μ1) (hj : j = 17 ∨ j = 18 ∨ (20 ≤ j ∧ j ≤ 23) ∨ j = 28 ∨ j = 29) : lmF μ (gsI μ1 10 0 j v) := h.tr ⟨fun a b x => gsI_off (by omega), fun a _ => by rw [gsI_at, if_neg (by omega)], fun a x y z _ => by rw [gsI_off (by omega)], rfl, kf.of (fun a ha => by rw [gsI_at, if_neg (by omega)])⟩
/-- the reference's draft is δ -/
def dfM (μ : gMem) (δ : dfT) : Prop := (μ.1 707 0 10 = nI δ.1.1 ∧ ∀ k, k < δ.1.1 → μ.1 708 0 (5 + k) = δ.1.2.1 k ∧ μ.1 709 0 (5 + k) = δ.1.2.2.1 k ∧ μ.1 710 0 (5 + k) = δ.1.2.2.2.1 k ∧ μ.1 711 0 (5 + k) = δ.1.2.2.2.2 k) ∧ (μ.1 707 0 11 = nI δ.2.1.1 ∧ ∀ k, k < δ.2.1.1 → μ.1 712 0 (6 + k) = δ.2.1.2.1 k ∧ μ.1 713 0 (6 + k) = δ.2.1.2.2.1 k ∧ μ.1 714 0 (6 + k) = δ.2.1.2.2.2.1 k ∧ μ.1 715 0 (6 + k) = δ.2.1.2.2.2.2 k) ∧ (μ.1 707 0 12 = nI δ.2.2.1.1 ∧ ∀ z, z < 30 → μ.1 716 0 (30 + z) = δ.2.2.1.2 z) ∧ (∀ j, 3 ≤ j → j ≤ 8 → μ.1 707 0 (10 + j) = δ.2.2.2.1 j) ∧ (μ.1 707 0 19 = nI δ.2.2.2.2.1.2.1 ∧ (∀ i, i < δ.2.2.2.2.1.2.1 → δ.2.2.2.2.1.1 i = (μ.1 719 0 (64 + i), μ.1 720 0 (64 + i))) ∧ (∀ r, r < 3 → μ.1 717 0 (3 + r) = nI (δ.2.2.2.2.1.2.2.1 r) ∧ μ.1 718 0 (3 + r) = nI (δ.2.2.2.2.1.2.2.2 r)) ∧ μ.1 10 0 28 = 0 ∧ μ.1 10 0 29 = nI δ.2.2.2.2.1.2.1) ∧ ∃ B, B < 2 ^ 20 ∧ μ.1 10 0 17 = nI B ∧ (∀ w, 3 ≤ w → w ≤ 6 → B.testBit w = δ.2.2.2.2.2 w) ∧ ∀ r, r < 3 → B.testBit (16 + r) = decide (δ.2.2.2.2.1.2.2.1 r < δ.2.2.2.2.1.2.2.2 r)
theorem dfM.of {μ μ' : gMem} {δ : dfT} (h : dfM μ δ) (hk : ∀ k, 707 ≤ k ∧ k ≤ 720 → μ'.1 k 0 = μ.1 k 0) (h10 : ∀ j, j = 17 ∨ j = 28 ∨ j = 29 → μ'.1 10 0 j = μ.1 10 0 j) : dfM μ' δ := by
  unfold dfM
  rw [hk 707 (by omega), hk 708 (by omega), hk 709 (by omega), hk 710 (by omega), hk 711 (by omega), hk 712 (by omega), hk 713 (by omega), hk 714 (by omega), hk 715 (by omega), hk 716 (by omega), hk 717 (by omega), hk 718 (by omega), hk 719 (by omega), hk 720 (by omega), h10 17 (by omega), h10 28 (by omega), h10 29 (by omega)]
  exact h
theorem dfM.w {μ μ' : gMem} {δ : dfT} (h : dfM μ δ) (F : rwF μ μ') : dfM μ' δ := h.of (fun k hk => F.1 k 0 (by omega)) (fun j hj => F.2.1 j (by omega))
theorem dfM.i5 {k m : Nat} {μ : gMem} {δ : dfT} {v : Int32} (h : dfM μ δ) (hk : 708 ≤ k ∧ k ≤ 711) (hm : 5 + δ.1.1 ≤ m) : dfM (gsI μ k 0 m v) δ := by
  obtain ⟨a, b, c, f, g, i⟩ := h
  have o : ∀ k', ¬ k' = k → (gsI μ k 0 m v).1 k' = μ.1 k' := fun k' hk' => by funext j; rw [gsI_off (by omega)]
  refine ⟨⟨by rw [o 707 (by omega)]; exact a.1, fun z hz => ?_⟩, ?_, ?_, ?_, ?_, ?_⟩
  · rw [gsI_at, if_neg (by omega), gsI_at, if_neg (by omega), gsI_at, if_neg (by omega), gsI_at, if_neg (by omega)]
    exact a.2 z hz
  · rw [o 707 (by omega), o 712 (by omega), o 713 (by omega), o 714 (by omega), o 715 (by omega)]; exact b
  · rw [o 707 (by omega), o 716 (by omega)]; exact c
  · rw [o 707 (by omega)]; exact f
  · rw [o 707 (by omega), o 717 (by omega), o 718 (by omega), o 719 (by omega), o 720 (by omega), o 10 (by omega)]; exact g
  · rw [o 10 (by omega)]; exact i
theorem dfM.i6 {k m : Nat} {μ : gMem} {δ : dfT} {v : Int32} (h : dfM μ δ) (hk : 712 ≤ k ∧ k ≤ 715) (hm : 6 + δ.2.1.1 ≤ m) : dfM (gsI μ k 0 m v) δ := by
  obtain ⟨b, a, c, f, g, i⟩ := h
  have o : ∀ k', ¬ k' = k → (gsI μ k 0 m v).1 k' = μ.1 k' := fun k' hk' => by funext j; rw [gsI_off (by omega)]
  refine ⟨?_, ⟨by rw [o 707 (by omega)]; exact a.1, fun z hz => ?_⟩, ?_, ?_, ?_, ?_⟩
  · rw [o 707 (by omega), o 708 (by omega), o 709 (by omega), o 710 (by omega), o 711 (by omega)]; exact b
  · rw [gsI_at, if_neg (by omega), gsI_at, if_neg (by omega), gsI_at, if_neg (by omega), gsI_at, if_neg (by omega)]
    exact a.2 z hz
  · rw [o 707 (by omega), o 716 (by omega)]; exact c
  · rw [o 707 (by omega)]; exact f
  · rw [o 707 (by omega), o 717 (by omega), o 718 (by omega), o 719 (by omega), o 720 (by omega), o 10 (by omega)]; exact g
  · rw [o 10 (by omega)]; exact i
theorem dfM.man {μ : gMem} {δ : dfT} {w g b u : Int32} (h : dfM μ δ) (h1 : μ.1 708 0 (5 + δ.1.1) = w) (h2 : μ.1 709 0 (5 + δ.1.1) = g) (h3 : μ.1 710 0 (5 + δ.1.1) = b) (h4 : μ.1 711 0 (5 + δ.1.1) = u) : dfM (gsI μ 707 0 10 (nI (δ.1.1 + 1))) ((δ.1.1 + 1, upI δ.1.2.1 δ.1.1 w, upI δ.1.2.2.1 δ.1.1 g, upI δ.1.2.2.2.1 δ.1.1 b, upI δ.1.2.2.2.2 δ.1.1 u), δ.2) := by
  obtain ⟨a, b, c, f, g, i⟩ := h
  have o : ∀ k', ¬ k' = 707 → (gsI μ 707 0 10 (nI (δ.1.1 + 1))).1 k' = μ.1 k' := fun k' hk' => by funext j; rw [gsI_off (by omega)]
  have o7 : ∀ j, ¬ j = 10 → (gsI μ 707 0 10 (nI (δ.1.1 + 1))).1 707 0 j = μ.1 707 0 j := fun j hj => by rw [gsI_at, if_neg (by omega)]
  refine ⟨⟨gsI_s, fun z hz => ?_⟩, ⟨by rw [o7 11 (by omega)]; exact b.1, fun z hz => ?_⟩, ⟨by rw [o7 12 (by omega)]; exact c.1, ?_⟩, fun j x y => ?_, ?_, ?_⟩
  · rw [o 708 (by omega), o 709 (by omega), o 710 (by omega), o 711 (by omega)]
    exact ⟨up_case (f := fun k => μ.1 708 0 (5 + k)) (fun k hk => (a.2 k hk).1) h1 z hz, up_case (f := fun k => μ.1 709 0 (5 + k)) (fun k hk => (a.2 k hk).2.1) h2 z hz, up_case (f := fun k => μ.1 710 0 (5 + k)) (fun k hk => (a.2 k hk).2.2.1) h3 z hz, up_case (f := fun k => μ.1 711 0 (5 + k)) (fun k hk => (a.2 k hk).2.2.2) h4 z hz⟩
  · rw [o 712 (by omega), o 713 (by omega), o 714 (by omega), o 715 (by omega)]; exact b.2 z hz
  · rw [o 716 (by omega)]; exact c.2
  · rw [o7 (10 + j) (by omega)]; exact f j x y
  · rw [o7 19 (by omega), o 717 (by omega), o 718 (by omega), o 719 (by omega), o 720 (by omega), o 10 (by omega)]; exact g
  · rw [o 10 (by omega)]; exact i
theorem dfM.deed {μ : gMem} {δ : dfT} {w g b u : Int32} (h : dfM μ δ) (h1 : μ.1 712 0 (6 + δ.2.1.1) = w) (h2 : μ.1 713 0 (6 + δ.2.1.1) = g) (h3 : μ.1 714 0 (6 + δ.2.1.1) = b) (h4 : μ.1 715 0 (6 + δ.2.1.1) = u) : dfM (gsI μ 707 0 11 (nI (δ.2.1.1 + 1))) (δ.1, (δ.2.1.1 + 1, upI δ.2.1.2.1 δ.2.1.1 w, upI δ.2.1.2.2.1 δ.2.1.1 g, upI δ.2.1.2.2.2.1 δ.2.1.1 b, upI δ.2.1.2.2.2.2 δ.2.1.1 u), δ.2.2) := by
  obtain ⟨b, a, c, f, g, i⟩ := h
  have o : ∀ k', ¬ k' = 707 → (gsI μ 707 0 11 (nI (δ.2.1.1 + 1))).1 k' = μ.1 k' := fun k' hk' => by funext j; rw [gsI_off (by omega)]
  have o7 : ∀ j, ¬ j = 11 → (gsI μ 707 0 11 (nI (δ.2.1.1 + 1))).1 707 0 j = μ.1 707 0 j := fun j hj => by rw [gsI_at, if_neg (by omega)]
  refine ⟨⟨by rw [o7 10 (by omega)]; exact b.1, fun z hz => ?_⟩, ⟨gsI_s, fun z hz => ?_⟩, ⟨by rw [o7 12 (by omega)]; exact c.1, ?_⟩, fun j x y => ?_, ?_, ?_⟩
  · rw [o 708 (by omega), o 709 (by omega), o 710 (by omega), o 711 (by omega)]; exact b.2 z hz
  · rw [o 712 (by omega), o 713 (by omega), o 714 (by omega), o 715 (by omega)]
    exact ⟨up_case (f := fun k => μ.1 712 0 (6 + k)) (fun k hk => (a.2 k hk).1) h1 z hz, up_case (f := fun k => μ.1 713 0 (6 + k)) (fun k hk => (a.2 k hk).2.1) h2 z hz, up_case (f := fun k => μ.1 714 0 (6 + k)) (fun k hk => (a.2 k hk).2.2.1) h3 z hz, up_case (f := fun k => μ.1 715 0 (6 + k)) (fun k hk => (a.2 k hk).2.2.2) h4 z hz⟩
  · rw [o 716 (by omega)]; exact c.2
  · rw [o7 (10 + j) (by omega)]; exact f j x y
  · rw [o7 19 (by omega), o 717 (by omega), o 718 (by omega), o 719 (by omega), o 720 (by omega), o 10 (by omega)]; exact g
  · rw [o 10 (by omega)]; exact i
theorem dfM.num {i n : Nat} {μ : gMem} {δ : dfT} {x : Int32} (h : dfM μ δ) (hi : 3 ≤ i ∧ i ≤ 8) (hn : n = 10 + i) : dfM (gsI μ 707 0 n x) (δ.1, δ.2.1, δ.2.2.1, upI δ.2.2.2.1 i x, δ.2.2.2.2) := by
  subst hn
  obtain ⟨a, b, c, f, g, i9⟩ := h
  have o : ∀ k', ¬ k' = 707 → (gsI μ 707 0 (10 + i) x).1 k' = μ.1 k' := fun k' hk' => by funext j; rw [gsI_off (by omega)]
  have o7 : ∀ j, ¬ j = 10 + i → (gsI μ 707 0 (10 + i) x).1 707 0 j = μ.1 707 0 j := fun j hj => by rw [gsI_at, if_neg (by omega)]
  refine ⟨⟨by rw [o7 10 (by omega)]; exact a.1, fun z hz => ?_⟩, ⟨by rw [o7 11 (by omega)]; exact b.1, fun z hz => ?_⟩, ⟨by rw [o7 12 (by omega)]; exact c.1, ?_⟩, fun j y z => ?_, ?_, ?_⟩
  · rw [o 708 (by omega), o 709 (by omega), o 710 (by omega), o 711 (by omega)]; exact a.2 z hz
  · rw [o 712 (by omega), o 713 (by omega), o 714 (by omega), o 715 (by omega)]; exact b.2 z hz
  · rw [o 716 (by omega)]; exact c.2
  · show (gsI μ 707 0 (10 + i) x).1 707 0 (10 + j) = if j = i then x else δ.2.2.2.1 j
    by_cases ej : j = i
    · rw [if_pos ej, ej, gsI_s]
    · rw [if_neg ej, o7 (10 + j) (by omega)]; exact f j y z
  · rw [o7 19 (by omega), o 717 (by omega), o 718 (by omega), o 719 (by omega), o 720 (by omega), o 10 (by omega)]; exact g
  · rw [o 10 (by omega)]; exact i9
theorem dfM.plan {z : Nat} {μ : gMem} {δ : dfT} {v : Int32} (h : dfM μ δ) : dfM (gsI (gsI μ 716 0 (30 + z) v) 707 0 12 (nI (δ.2.2.1.1 + 1))) (δ.1, δ.2.1, (δ.2.2.1.1 + 1, upI δ.2.2.1.2 z v), δ.2.2.2) := by
  obtain ⟨a, b, c, f, g, i⟩ := h
  obtain ⟨ν, eν⟩ : ∃ ν, ν = gsI (gsI μ 716 0 (30 + z) v) 707 0 12 (nI (δ.2.2.1.1 + 1)) := ⟨_, rfl⟩
  rw [← eν]
  have o : ∀ k', ¬ k' = 707 → ¬ k' = 716 → ν.1 k' = μ.1 k' := fun k' hk' hk2 => by funext j; rw [eν, gsI_off (by omega), gsI_off (by omega)]
  have o7 : ∀ j, ¬ j = 12 → ν.1 707 0 j = μ.1 707 0 j := fun j hj => by rw [eν, gsI_at, if_neg (by omega), gsI_off (by omega)]
  refine ⟨⟨by rw [o7 10 (by omega)]; exact a.1, fun z hz => ?_⟩, ⟨by rw [o7 11 (by omega)]; exact b.1, fun z hz => ?_⟩, ⟨by rw [eν, gsI_s], fun y hy => ?_⟩, fun j x y => ?_, ?_, ?_⟩
  · rw [o 708 (by omega) (by omega), o 709 (by omega) (by omega), o 710 (by omega) (by omega), o 711 (by omega) (by omega)]; exact a.2 z hz
  · rw [o 712 (by omega) (by omega), o 713 (by omega) (by omega), o 714 (by omega) (by omega), o 715 (by omega) (by omega)]; exact b.2 z hz
  · rw [eν, gsI_off (by omega), gsI_at]
    show (if 716 = 716 ∧ 0 = 0 ∧ 30 + y = 30 + z then v else μ.1 716 0 (30 + y)) = if y = z then v else δ.2.2.1.2 y
    by_cases ey : y = z
    · rw [if_pos ⟨rfl, rfl, by omega⟩, if_pos ey]
    · rw [if_neg (by omega), if_neg ey]; exact c.2 y hy
  · rw [o7 (10 + j) (by omega)]; exact f j x y
  · rw [o7 19 (by omega), o 717 (by omega) (by omega), o 718 (by omega) (by omega), o 719 (by omega) (by omega), o 720 (by omega) (by omega), o 10 (by omega) (by omega)]; exact g
  · rw [o 10 (by omega) (by omega)]; exact i
theorem dfM.said {μ : gMem} {δ : dfT} {w : Nat} (h : dfM μ δ) (hw : w ≤ 7) : dfM (gsI μ 10 0 17 (μ.1 10 0 17 ||| ((1 : Int32) <<< (nI w &&& 31)))) (δ.1, δ.2.1, δ.2.2.1, δ.2.2.2.1, δ.2.2.2.2.1, upB δ.2.2.2.2.2 w true) := by
  obtain ⟨a, b, c, f, g, B, hB, eB, b1, b2⟩ := h
  obtain ⟨e1, e2⟩ := bt_up (w := w) hB (by omega)
  rw [eB, e1]
  obtain ⟨ν, eν⟩ : ∃ ν, ν = gsI μ 10 0 17 (nI (B ||| 2 ^ w)) := ⟨_, rfl⟩
  rw [← eν]
  have o : ∀ k', ¬ k' = 10 → ν.1 k' = μ.1 k' := fun k' hk' => by funext j; rw [eν, gsI_off (by omega)]
  have o10 : ∀ j, ¬ j = 17 → ν.1 10 0 j = μ.1 10 0 j := fun j hj => by rw [eν, gsI_at, if_neg (by omega)]
  refine ⟨?_, ?_, ?_, ?_, ?_, B ||| 2 ^ w, e2, by rw [eν, gsI_s], fun k h1 h2 => ?_, fun r hr => ?_⟩
  · rw [o 707 (by omega), o 708 (by omega), o 709 (by omega), o 710 (by omega), o 711 (by omega)]; exact a
  · rw [o 707 (by omega), o 712 (by omega), o 713 (by omega), o 714 (by omega), o 715 (by omega)]; exact b
  · rw [o 707 (by omega), o 716 (by omega)]; exact c
  · rw [o 707 (by omega)]; exact f
  · rw [o 707 (by omega), o 717 (by omega), o 718 (by omega), o 719 (by omega), o 720 (by omega), o10 28 (by omega), o10 29 (by omega)]; exact g
  · rw [bt_at, b1 k h1 h2]
    show _ = if k = w then true else δ.2.2.2.2.2 k
    by_cases ek : k = w
    · rw [if_pos ek, decide_eq_true (ek.symm), Bool.or_true]
    · rw [if_neg ek, decide_eq_false (fun z => ek z.symm), Bool.or_false]
  · rw [bt_at, b2 r hr, decide_eq_false (show ¬ w = 16 + r by omega), Bool.or_false]
