/-! the reference keeps worlds for undo -/
theorem hM_cp {μ : gMem} {men a b : Nat} {V : wV} (h5 : men ≤ 5) (h : hM μ men b V) : hM (mcp μ a b) men a V := by
  refine ⟨fun k hk j hj => ?_, fun k hk j hj => ?_, ?_, ?_, ?_⟩
  · have := mkk_rng j (by omega)
    rw [mcp_5 (by omega) (by omega) (by omega)]
    exact h.1 k hk j hj
  · rw [show 30 * a + 6 * k + j = 30 * a + (6 * k + j) by omega, mcp_t (by omega), show 30 * b + (6 * k + j) = 30 * b + 6 * k + j by omega]
    exact h.2.1 k hk j hj
  · rw [mcp_3 (by omega) (by omega)]; exact h.2.2.1
  · rw [mcp_3 (by omega) (by omega)]; exact h.2.2.2.1
  · rw [mcp_3 (by omega) (by omega)]; exact h.2.2.2.2
theorem hM_cpo {μ : gMem} {men a b c : Nat} {V : wV} (h5 : men ≤ 5) (hne : ¬ c = a) (h : hM μ men c V) : hM (mcp μ a b) men c V := h.of (fun k _ _ z _ _ => mlay_off (by omega) (by omega) (by omega)) (fun z _ _ => mlay_off (by omega) (by omega) (by omega)) (fun k _ _ => mlay_off (by omega) (by omega) (by omega))
/-- what keeping changes: worlds from 3 on and how many -/
def kwF (μ μ' : gMem) : Prop := (∀ k j, ¬ (737 ≤ k ∧ k ≤ 751 ∧ j = 0) → ¬ (k = 10 ∧ j = 0) → μ'.1 k j = μ.1 k j) ∧ (∀ j, ¬ j = 50 → μ'.1 10 0 j = μ.1 10 0 j) ∧ μ'.2 = μ.2 ∧ ∀ men m V, men ≤ 5 → m < 3 → hM μ men m V → hM μ' men m V
theorem kwF.rf {μ : gMem} : kwF μ μ := ⟨fun _ _ _ _ => rfl, fun _ _ => rfl, rfl, fun _ _ _ _ _ h => h⟩
theorem kwF.tr {μ μ1 μ2 : gMem} (h : kwF μ μ1) (h2 : kwF μ1 μ2) : kwF μ μ2 := ⟨fun k j a b => (h2.1 k j a b).trans (h.1 k j a b), fun j a => (h2.2.1 j a).trans (h.2.1 j a), h2.2.2.1.trans h.2.2.1, fun men m V a b c => h2.2.2.2 men m V a b (h.2.2.2 men m V a b c)⟩
theorem hM_10 {μ : gMem} {men m j : Nat} {V : wV} {v : Int32} (h : hM μ men m V) : hM (gsI μ 10 0 j v) men m V := h.of (fun k _ _ z _ _ => by rw [gsI_off (by omega)]) (fun z _ _ => by rw [gsI_off (by omega)]) (fun k _ _ => by rw [gsI_off (by omega)])
theorem kwF.cp {μ : gMem} {a b : Nat} (ha : 3 ≤ a) : kwF μ (mcp μ a b) := ⟨fun k j x _ => mcp_off (by omega), fun j _ => mlay_off (by omega) (by omega) (by omega), rfl, fun men m V h5 hm h => hM_cpo h5 (by omega) h⟩
theorem kwF.n {μ : gMem} {v : Int32} : kwF μ (gsI μ 10 0 50 v) := ⟨fun k j _ x => gsI_off (by omega), fun j hj => by rw [gsI_at, if_neg (by omega)], rfl, fun men m V _ _ h => hM_10 h⟩
theorem kwF.kp {μ μ' : gMem} (h : kwF μ μ') : cKp μ μ' := ⟨fun k j a b => h.1 k j (by omega) (by omega), by rw [h.2.2.1], fun k j _ => by rw [h.2.2.1]⟩
section KN
variable {l : Launch} {D : gD} {d : Nat} {μ : gMem} {men : Nat} {V : wV}
theorem keep_2 {Γ : gC} {q : gMem → Prop} {m : Nat} {W : Nat → wV} (hd : 1 ≤ d) (h5 : men ≤ 5) (hm : m < 20) (h50 : μ.1 10 0 50 = nI m) (hw : ∀ k, k < m → hM μ men (3 + k) (W k)) (hV : hM μ men 0 V) (hq : ∀ μ', kwF μ μ' → μ'.1 10 0 50 = nI (m + 1) → (∀ k, k < m → hM μ' men (3 + k) (W k)) → hM μ' men (3 + m) V → q μ') : pt_X10_keepNow_2 l D d q Γ 0 μ := by
  refine bl_X10_keepNow_2 (by decide) ⟨0, _, by omega, by rw [h50, show (3 : Int32) = nI 3 from rfl, nI_add]; exact c_X10_copies (a := 3 + m) (b := 0) (by omega) (by decide) (by omega), ?_⟩
  rintro _ rfl
  have e50 : (mcp μ (3 + m) 0).1 10 0 50 = nI m := by rw [mcp_off (by omega)]; exact h50
  rw [e50, nI_1]
  rintro μ2 e2
  refine hq μ2 (by rw [e2]; exact (kwF.cp (by omega)).tr kwF.n) (by rw [e2, gsI_s]) (fun k hk => ?_) ?_
  · rw [e2]; exact hM_10 (hM_cpo h5 (by omega) (hw k hk))
  · rw [e2]; exact hM_10 (hM_cp h5 hV)
theorem keep_1 {Γ : gC} {q : gMem → Prop} {U : Nat → wV} {μ0 : gMem} (hd : 1 ≤ d) (h5 : men ≤ 5) (hV : hM μ0 men 0 V) (hq : ∀ μ', kwF μ0 μ' → μ'.1 10 0 50 = nI 20 → (∀ k, k < 19 → hM μ' men (3 + k) (U (k + 1))) → hM μ' men (3 + 19) V → q μ') :
    ∀ (c j : Nat) (μ : gMem), j + c = 20 → 0 < j → kwF μ0 μ → μ.1 10 0 50 = nI 20 → (∀ k, k < 20 → hM μ men (3 + k) (if k + 1 < j then U (k + 1) else U k)) → pt_X10_keepNow_1 l D d q Γ 0 (nI j) μ := by
  have e20 : (20 : Int32) = nI 20 := rfl
  intro c
  induction c with
  | zero =>
    intro j μ hj h0 hF h50 hw
    refine bl_X10_keepNow_1 (by decide) ⟨fun _ => ?_, fun z => absurd (by rw [e20]; exact nI_le (by omega) (by omega)) z⟩
    rw [h50]
    rintro μ1 e1
    have hF1 : kwF μ0 μ1 := by rw [e1]; exact hF.tr kwF.n
    refine keep_2 (m := 19) (W := fun k => U (k + 1)) hd h5 (by omega) (by rw [e1, gsI_s]; rfl) (fun k hk => ?_) (hF1.2.2.2 men 0 V h5 (by omega) hV) (fun μ' a b c e => hq μ' (hF1.tr a) b c e)
    have := hw k (by omega)
    rw [if_pos (by omega)] at this
    rw [e1]
    exact hM_10 this
  | succ c ih =>
    intro j μ hj h0 hF h50 hw
    have ea : ((3 : Int32) + nI j) - 1 = nI (2 + j) := by rw [show (3 : Int32) = nI 3 from rfl, nI_add, show (1 : Int32) = nI 1 from rfl, pk_sub (by omega), show 3 + j - 1 = 2 + j by omega]
    have eb : (3 : Int32) + nI j = nI (3 + j) := by rw [show (3 : Int32) = nI 3 from rfl, nI_add]
    refine bl_X10_keepNow_1 (by decide) ⟨fun z => absurd z (by rw [e20]; exact nI_ge (by omega) (by omega)), fun _ => ⟨0, _, by omega, by rw [ea, eb]; exact c_X10_copies (a := 2 + j) (b := 3 + j) (by omega) (by omega) (by omega), ?_⟩⟩
    rintro _ rfl _ rfl
    rw [nI_1]
    refine ih (j + 1) _ (by omega) (by omega) (hF.tr (kwF.cp (by omega))) (by rw [mcp_off (by omega)]; exact h50) (fun k hk => ?_)
    by_cases e : k + 1 = j
    · rw [if_pos (by omega), show 3 + k = 2 + j by omega, show U (k + 1) = U j by rw [e]]
      have := hw j (by omega)
      rw [if_neg (by omega)] at this
      exact hM_cp h5 this
    · have := hw k hk
      have e2 : (if k + 1 < j + 1 then U (k + 1) else U k) = (if k + 1 < j then U (k + 1) else U k) := by
        by_cases h1 : k + 1 < j
        · rw [if_pos h1, if_pos (by omega)]
        · rw [if_neg h1, if_neg (by omega)]
      rw [e2]
      exact hM_cpo h5 (by omega) this
theorem c_X10_keepNow {υ : Nat × (Nat → wV) × (Nat → Int32 × Int32 × Int32 × Int32)} {c : Int32 × Int32 × Int32 × Int32} {Vn : wV} (hd : 1 ≤ d) (h5 : men ≤ 5) (h : unM μ men υ) (hm : υ.1 ≤ 20) (hl : υ.2.1 υ.1 = V) (hV : hM μ men 0 V) : Ctr l D d yX10_keepNow cX10_keepNow 2 none [.ref (D.2.2 10 0)] μ (pV (fun μ' => kwF μ μ' ∧ unM μ' men (pushU υ c Vn))) := by
  refine en_X10_keepNow (fun Γ => bl_X10_keepNow_0 (by decide) ?_)
  have eq : μ.1 10 0 50 = (20 : Int32) ↔ υ.1 = 20 := by rw [h.1]; exact nI_eq (b := 20) (by omega) (by omega)
  rw [eq]
  refine ⟨fun z => keep_2 (V := V) (m := υ.1) (W := υ.2.1) hd h5 (by omega) h.1 h.2 hV (fun μ' a b e f => ⟨a, ?_⟩), fun z => ?_⟩
  · unfold pushU
    rw [if_pos (by omega)]
    refine ⟨b, fun k hk => ?_⟩
    have hk : k < υ.1 + 1 := hk
    show hM μ' men (3 + k) (if k = υ.1 + 1 then Vn else υ.2.1 k)
    rw [if_neg (by omega)]
    by_cases ek : k = υ.1
    · rw [ek, hl]; exact f
    · exact e k (by omega)
  · rintro _ rfl
    refine keep_1 (V := V) (U := υ.2.1) (μ0 := μ) hd h5 hV (fun μ' a b e f => ⟨a, ?_⟩) 19 1 μ (by omega) (by omega) kwF.rf (by rw [h.1, z]) (fun k hk => by rw [if_neg (by omega)]; exact h.2 k (by omega))
    unfold pushU
    rw [if_neg (by omega)]
    refine ⟨b, fun k hk => ?_⟩
    have hk : k < 20 := hk
    show hM μ' men (3 + k) (if k = 20 then Vn else υ.2.1 (k + 1))
    rw [if_neg (by omega)]
    by_cases ek : k = 19
    · rw [ek, show 19 + 1 = υ.1 by omega, hl]; exact f
    · exact e k (by omega)
end KN
theorem mSt_push {μ μ2 : gMem} {σ : sV} {Vn : wV} {c : Int32 × Int32 × Int32 × Int32} (h : mSt μ σ) (hG : ∀ k j, ¬ (737 ≤ k ∧ k ≤ 751 ∧ j = 0) → ¬ (k = 10 ∧ j = 0) → μ2.1 k j = μ.1 k j) (h10 : ∀ j, ¬ j = 50 → μ2.1 10 0 j = μ.1 10 0 j) (h2 : ∀ V, hM μ (eMen σ.1.1) 2 V → hM μ2 (eMen σ.1.1) 2 V) (hW : hM μ2 (eMen σ.1.1) 0 Vn) (hU : unM μ2 (eMen σ.1.1) (pushU σ.2.2.2.2.1 c Vn)) : mSt μ2 (psh σ Vn c) := by
  obtain ⟨a1, a2, a3, a4, a5, a6, a7⟩ := h
  exact ⟨by rw [h10 51 (by omega), h10 52 (by omega)]; exact a1, a2.of (fun k hk => hG k 0 (by omega) (by omega)), hW, a4.of (fun k hk => hG k 0 (by omega) (by omega)) (fun j hj => h10 j (by omega)), a5.of (h10 49 (by omega)) h2, hU, a7.of (fun j hj => h10 j (by omega)) (hG 705 0 (by omega) (by omega))⟩
theorem hM_far {μ : gMem} {men m k p : Nat} {V : wV} {x : Int32} (hk : 740 ≤ k) (hk2 : k ≤ 750) (hp : p < 5) (hm : 0 < m) (h : hM μ men m V) : hM (gsI μ k 0 p x) men m V := h.of (fun k' _ _ z _ _ => by rw [gsI_at, if_neg (by omega)]) (fun z _ _ => by rw [gsI_off (by omega)]) (fun k' _ _ => by rw [gsI_off (by omega)])
theorem mSt_set {μ μ1 : gMem} {p j k : Nat} {σ : sV} {x : Int32} {c : Int32 × Int32 × Int32 × Int32} (h : mSt μ σ) (hO : sOkS σ) (hp : p < eMen σ.1.1) (hj : j ≤ 10) (hk : k = mkk j) (hF : kwF μ μ1) (hU : unM μ1 (eMen σ.1.1) (pushU σ.2.2.2.2.1 c (vSet σ.2.1 p j x))) : mSt (gsI μ1 k 0 p x) (psh σ (vSet σ.2.1 p j x) c) := by
  subst hk
  have h5 := hO.1.1.1
  have hr := mkk_rng j (by omega)
  have hW := hF.2.2.2 (eMen σ.1.1) 0 _ h5 (by omega) h.2.2.1
  refine mSt_push h (fun k i a b => by rw [gsI_off (by omega)]; exact hF.1 k i a b) (fun i hi => by rw [gsI_off (by omega)]; exact hF.2.1 i hi) (fun V hV => hM_far (by omega) (by omega) (by omega) (by omega) (hF.2.2.2 _ 2 V h5 (by omega) hV)) ⟨fun q hq z hz => ?_, fun q hq z hz => ?_, ?_, ?_, ?_⟩ ⟨by rw [gsI_off (by omega)]; exact hU.1, fun q hq => hM_far (by omega) (by omega) (by omega) (by omega) (hU.2 q hq)⟩
  · have := hW.1 q hq z hz
    rw [Nat.mul_zero, Nat.zero_add] at this ⊢
    show (gsI μ1 (mkk j) 0 p x).1 (mkk z) 0 q = setS σ.2.1.1 p j x q z
    rw [gsI_at]
    by_cases e : q = p ∧ z = j
    · rw [if_pos ⟨by rw [e.2], rfl, e.1⟩, e.1, e.2, setS_s]
    · rw [if_neg (fun w => e ⟨w.2.2, mkk_inj z (by omega) j (by omega) w.1⟩), setS_o e]
      exact this
  · rw [gsI_off (by omega)]; exact hW.2.1 q hq z hz
  · rw [gsI_off (by omega)]; exact hW.2.2.1
  · rw [gsI_off (by omega)]; exact hW.2.2.2.1
  · rw [gsI_off (by omega)]; exact hW.2.2.2.2
theorem mSt_put {μ μ1 : gMem} {p j : Nat} {σ : sV} {x : Int32} {c : Int32 × Int32 × Int32 × Int32} (h : mSt μ σ) (hO : sOkS σ) (hp : p < 5) (hj : j < 6) (hF : kwF μ μ1) (hU : unM μ1 (eMen σ.1.1) (pushU σ.2.2.2.2.1 c (vPut σ.2.1 p j x))) : mSt (gsI μ1 751 0 (6 * p + j) x) (psh σ (vPut σ.2.1 p j x) c) := by
  have h5 := hO.1.1.1
  have hW := hF.2.2.2 (eMen σ.1.1) 0 _ h5 (by omega) h.2.2.1
  have far : ∀ m V, 0 < m → hM μ1 (eMen σ.1.1) m V → hM (gsI μ1 751 0 (6 * p + j) x) (eMen σ.1.1) m V := fun m V hm hh => hh.of (fun k' a b z _ _ => by rw [gsI_off (by omega)]) (fun z a b => by rw [gsI_at, if_neg (by omega)]) (fun k' _ _ => by rw [gsI_off (by omega)])
  refine mSt_push h (fun k i a b => by rw [gsI_off (by omega)]; exact hF.1 k i a b) (fun i hi => by rw [gsI_off (by omega)]; exact hF.2.1 i hi) (fun V hV => far 2 V (by omega) (hF.2.2.2 _ 2 V h5 (by omega) hV)) ⟨fun q hq z hz => ?_, fun q hq z hz => ?_, ?_, ?_, ?_⟩ ⟨by rw [gsI_off (by omega)]; exact hU.1, fun q hq => far _ _ (by omega) (hU.2 q hq)⟩
  · have := mkk_rng z (by omega)
    rw [gsI_off (by omega)]; exact hW.1 q hq z hz
  · have := hW.2.1 q hq z hz
    show (gsI μ1 751 0 (6 * p + j) x).1 751 0 (30 * 0 + 6 * q + z) = setS σ.2.1.2.1 p j x q z
    rw [gsI_at]
    by_cases e : q = p ∧ z = j
    · rw [if_pos ⟨rfl, rfl, by omega⟩, e.1, e.2, setS_s]
    · rw [if_neg (by omega), setS_o e]
      exact this
  · rw [gsI_off (by omega)]; exact hW.2.2.1
  · rw [gsI_off (by omega)]; exact hW.2.2.2.1
  · rw [gsI_off (by omega)]; exact hW.2.2.2.2
