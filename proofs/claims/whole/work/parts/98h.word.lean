/-! the reference's word() against the table of words -/
theorem g_ldcS10 {l : Launch} {D : gD} {cc : ByteArray} {nL d : Nat} {ret : Option FieldType} {post : gP} {Γ : gC} {pc : Nat} {lv : List (Nat × Value)} {st : List Value} {μ : gMem} (hdg : decode cc pc = .ok (.ldc 188, 2)) (kk : G l D RX10 cc nL ret d post Γ (pc + 2) lv (.ref (D.2.2 2000 0) :: st) μ) : G l D RX10 cc nL ret d post Γ pc lv st μ := fun H locs ls ok hl hh hS => va_ldcS ok.1 ok.2.1 ok.2.2.2.1 ok.2.2.2.2.2.1.2.2.2.2.2.1 hdg (kk H locs ls ok hl hh hS)
theorem grs_ok {d j nL' : Nat} (hj : j ≤ 3) (hn : nL' ≤ 45) : (srm j).frames + 1 ≤ (grm d).frames ∧ 8 + (nL' + 11) + (srm j).locals ≤ (grm d).locals := by
  refine ⟨by show j + 1 ≤ d + 4; omega, ?_⟩
  show 8 + (nL' + 11) + 64 * j ≤ 64 * d + 256
  omega
theorem g_strV {l : Launch} {D : gD} {own : String} {cc : ByteArray} {nL d : Nat} {ret : Option FieldType} {post : gP} {Γ : gC} {pc : Nat} {lv : List (Nat × Value)} {st : List Value} {μ : gMem} {idx n j nL' : Nat} {y : MethodName} {cc' : ByteArray} {ret' : Option FieldType} {As rest : List Value} {post' : Option Value → Prop} (hL : gLV own idx RJ0 y cc' nL' ret' n) (hc : SCt l j y cc' nL' ret' (.ref (D.2.2 2000 0) :: As) (D.2.2 2000 0) (D.2.2 2001 0) post') (hj : j ≤ 3) (hnL : nL' ≤ 45) (hn : As.length = n) (hst : st = As.reverse ++ .ref (D.2.2 2000 0) :: rest) (hrm : (rest.map fun v => v.category).sum ≤ 8) (hdg : decode cc pc = .ok (.invokevirtual idx, 3)) (kk : ∀ r : Option Value, post' r → G l D own cc nL ret d post Γ (pc + 3) lv (r.toList ++ rest) μ) : G l D own cc nL ret d post Γ pc lv st μ := by
  intro H locs ls ok hl hh hS
  have hX := ok.2.2.2.2.2.1.2.2
  obtain ⟨h1, h2, h3, h4, h5, h6, h7⟩ := hL
  have hB : CallW (grm d) Γ.2.2.1 Γ.2.2.2.2.1 own RJ0 idx y cc' nL' ret' (gws y cc' nL' ret') (srm j) 0 0 n := ⟨callB_of n ok.2.2.2.2.1 (gws_in h1) rfl rfl rfl (ok.2.2.2.2.1 _ (by rw [h6]; exact h5)) (ok.2.2.2.2.1 _ h2) h7 (grs_ok hj hnL), ok.2.2.2.2.1 _ h3, ok.2.2.2.2.1 _ h4⟩
  exact s_run (va_runV (As := As) (rest := rest) (b := D.2.2 2000 0) ⟨ok.1, ok.2.1, ok.2.2.1, ok.2.2.2.1, ok.2.2.2.2.1⟩ hc hB ⟨sblind, vk_recv (adK := fun _ => D.2.2 2000 0) (i := 0) hX.1.1 (by decide) hS, fun U hU hW => ⟨rfl, by show sXs noA (D.2.2 2000 0) (D.2.2 2001 0) U U.heap; rw [hU]; exact ((hX.1.kept hS.2.1).narrow (fun _ h => h.elim)).moved hW.alike⟩⟩ rfl hn hl.1 hst (lv_room hrm) hdg ⟨Nat.zero_le _, Nat.zero_le _⟩) (fun r hp => kk r hp H locs ls ok hl hh hS)
/-- the text's signs, where words begin, how long they are -/
def wsN : List Nat := [109, 97, 110, 32, 100, 101, 101, 100, 32, 112, 108, 97, 110, 32, 98, 101, 116, 32, 112, 97, 121, 32, 114, 97, 105, 110, 32, 115, 101, 101, 100, 32, 108, 97, 119, 32, 112, 117, 115, 104, 32, 104, 97, 98, 105, 116, 32, 102, 97, 105, 114, 32, 111, 114, 32, 97, 110, 100, 32, 110, 111, 116, 32, 98, 97, 115, 101, 32, 103, 111, 97, 108, 32, 115, 116, 101, 112, 115, 32, 114, 111, 119, 32, 108, 97, 99, 107, 115, 32, 98, 101, 104, 105, 110, 100, 32, 100, 97, 121, 32]
def wsx (k : Nat) : Nat := wsN.getD k 0
def wsB : List Nat := [0, 4, 9, 14, 18, 22, 27, 32, 36, 41, 47, 52, 55, 59, 63, 68, 73, 79, 83, 89, 96, 100]
def wsO9 (n : Nat) : Nat := wsB.getD n 0
def wsl (n : Nat) : Nat := wsO9 (n + 1) - wsO9 n - 1
theorem wsx_ch : ∀ k, k < 100 → sCh k = nI (wsx k) ∧ wsx k < 128 := by decide +kernel
theorem ws_n : ∀ n, n < 21 → wsO9 n + wsl n < 100 ∧ wsO9 (n + 1) = wsO9 n + wsl n + 1 ∧ wsl n ≤ 6 ∧ 0 < wsl n ∧ wsx (wsO9 n + wsl n) = 32 := by decide +kernel
theorem ws_c : ∀ n, n < 21 → ∀ i, i < wsl n → 97 ≤ wsx (wsO9 n + i) ∧ wsx (wsO9 n + i) ≤ 122 := by
  have hall : ∀ n : Fin 21, ∀ i : Fin 6, i.val < wsl n.val → 97 ≤ wsx (wsO9 n.val + i.val) ∧ wsx (wsO9 n.val + i.val) ≤ 122 := by decide +kernel
  intro n hn i hi
  have hle6 := (ws_n n hn).2.2.1
  exact hall ⟨n, hn⟩ ⟨i, by omega⟩ hi
/-- six digits -/
def dg6 (f : Nat → Nat) : Nat := ((((f 0 * 32 + f 1) * 32 + f 2) * 32 + f 3) * 32 + f 4) * 32 + f 5
theorem dg6_inj {f g : Nat → Nat} (hf : ∀ i, f i < 32) (hg : ∀ i, g i < 32) (h : dg6 f = dg6 g) : ∀ i, i < 6 → f i = g i := by
  unfold dg6 at h
  have a0 := hf 0; have a1 := hf 1; have a2 := hf 2; have a3 := hf 3; have a4 := hf 4; have a5 := hf 5
  have b0 := hg 0; have b1 := hg 1; have b2 := hg 2; have b3 := hg 3; have b4 := hg 4; have b5 := hg 5
  intro i hi
  obtain rfl | rfl | rfl | rfl | rfl | rfl : i = 0 ∨ i = 1 ∨ i = 2 ∨ i = 3 ∨ i = 4 ∨ i = 5 := by omega
  all_goals omega
def wdg (n i : Nat) : Nat := if i < wsl n then wsx (wsO9 n + i) - 96 else 0
theorem lg_dg : ∀ n, n < 21 → lgL.getD n 0 = dg6 (wdg n) ∧ lgL.getD n 0 < 2 ^ 30 := by decide +kernel
theorem wv_dg {tb : Nat → Nat} {p e : Nat} : wv tb p e 6 = dg6 (fun i => if p + i < e then tb (p + i) - 96 else 0) := by
  unfold dg6
  simp only [wv, Nat.zero_mul, Nat.zero_add, Nat.add_zero]
/-- the word from p to e is the n-th of the language -/
abbrev mtW (tb : Nat → Nat) (p e n : Nat) : Prop := e = p + wsl n ∧ ∀ i, i < wsl n → tb (p + i) = wsx (wsO9 n + i)
theorem mt_lg {tb : Nat → Nat} {p e n : Nat} (hpe : p ≤ e) (h6 : e - p ≤ 6) (hl : ∀ z, p ≤ z → z < e → ltr (tb z)) (hn : n < 21) : lgW n = nI (wv tb p e 6) ↔ mtW tb p e n := by
  have hw := wv_lt (tb := tb) hl 6
  obtain ⟨lgA, lgB2⟩ := lg_dg n hn
  obtain ⟨wA, wB2, wC2, wD2, wE2⟩ := ws_n n hn
  have hc := ws_c n hn
  unfold lgW
  rw [nI_eq (by omega) (by omega), lgA, wv_dg]
  have df : ∀ i, wdg n i < 32 := by
    intro i
    unfold wdg
    by_cases hi : i < wsl n
    · rw [if_pos hi]; have := hc i hi; omega
    · rw [if_neg hi]; omega
  have dgx : ∀ i, (if p + i < e then tb (p + i) - 96 else 0) < 32 := by
    intro i
    by_cases hi : p + i < e
    · rw [if_pos hi]; have := hl (p + i) (by omega) hi; omega
    · rw [if_neg hi]; omega
  constructor
  · intro h
    have hd := dg6_inj df dgx h
    have hlen : e = p + wsl n := by
      by_cases hlt : e < p + wsl n
      · have := hd (e - p) (by omega)
        unfold wdg at this
        rw [if_pos (by omega), if_neg (by omega)] at this
        have := hc (e - p) (by omega)
        omega
      · by_cases hgt : p + wsl n < e
        · have := hd (wsl n) (by omega)
          unfold wdg at this
          rw [if_neg (by omega), if_pos (by omega)] at this
          have := hl (p + wsl n) (by omega) (by omega)
          omega
        · omega
    refine ⟨hlen, fun i hi => ?_⟩
    have := hd i (by omega)
    unfold wdg at this
    rw [if_pos hi, if_pos (by omega)] at this
    have := hc i hi
    have := hl (p + i) (by omega) (by omega)
    omega
  · rintro ⟨hlen, hch⟩
    have hf : wdg n = fun i => if p + i < e then tb (p + i) - 96 else 0 := by
      funext i
      unfold wdg
      by_cases hi : i < wsl n
      · rw [if_pos hi, if_pos (by omega), hch i hi]
      · rw [if_neg hi, if_neg (by omega)]
    rw [hf]
noncomputable def mtF (tb : Nat → Nat) (p e : Nat) : Nat → Nat → Int32
  | 0, _ => -1
  | c + 1, n => if mtW tb p e n then nI n else mtF tb p e c (n + 1)
theorem mtF_tk {tb : Nat → Nat} {p e : Nat} (hpe : p ≤ e) (hl : ∀ z, p ≤ z → z < e → ltr (tb z)) : ∀ (c n : Nat), n + c = 21 → mtF tb p e c n = if 6 < e - p then -1 else fndL lgW (nI (wv tb p e 6)) c n := by
  intro c
  induction c with
  | zero =>
    intro n hn
    rw [mtF, fndL]
    split <;> rfl
  | succ c ih =>
    intro n hn
    rw [mtF, fndL, ih (n + 1) (by omega)]
    have w6 := (ws_n n (by omega)).2.2.1
    by_cases h6 : 6 < e - p
    · have hno : ¬ mtW tb p e n := fun hw9 => by
        have hw1 := hw9.1
        omega
      rw [if_pos h6, if_neg hno, if_pos h6]
    · rw [if_neg h6]
      by_cases hm : mtW tb p e n
      · rw [if_pos hm, if_neg h6, if_pos ((mt_lg hpe (by omega) hl (by omega)).mpr hm)]
      · rw [if_neg hm, if_neg h6, if_neg (fun w => hm ((mt_lg hpe (by omega) hl (by omega)).mp w))]
section WD
variable {l : Launch} {D : gD} {d : Nat} {Γ : gC} {μ : gMem} {tb : Nat → Nat} {L p e n : Nat} {Q : gP}
theorem w_97 (hn : n < 21) (hx : G l D RX10 cX10_word 4 (some .int) d Q Γ 4 [(0, .ref (D.2.2 10 0)), (1, .int (nI (n + 1))), (2, .int (nI (wsO9 (n + 1))))] [] μ) : ∀ (c j : Nat), j + c = wsl n → G l D RX10 cX10_word 4 (some .int) d Q Γ 97 [(0, .ref (D.2.2 10 0)), (1, .int (nI n)), (2, .int (nI (wsO9 n + j)))] [] μ := by
  obtain ⟨wA, wB2, wC2, wD2, wE2⟩ := ws_n n hn
  have hc := ws_c n hn
  intro c
  induction c with
  | zero =>
    intro j hj
    have hjj : j = wsl n := by omega
    obtain ⟨ec, -⟩ := wsx_ch (wsO9 n + j) (by omega)
    refine g_ldcS10 dX10_word_97 ?_
    refine g_iload_n dX10_word_99 rfl ?_
    refine g_strV (As := [.int (nI (wsO9 n + j))]) (rest := []) ca_X10_195 (cS_chr (d := 3) (by omega) (by omega)) (by omega) (by decide) rfl rfl (by decide) dX10_word_100 (fun r hr => ?_)
    subst hr
    refine g_bipush (32 : Int32) dX10_word_103 rfl ?_
    refine g_icmp_eq (tgt := 114) dX10_word_105 (by decide) (fun _ => ?_) (fun w => absurd ?_ w)
    · refine g_iinc dX10_word_114 rfl (by decide) (fun y hy => ?_)
      refine g_iinc dX10_word_117 rfl (by decide) (fun y1 hy1 => ?_)
      refine g_goto (tgt := 4) dX10_word_120 (by decide) ?_
      refine g_sub (lv' := [(0, .ref (D.2.2 10 0)), (1, .int y1), (2, .int y)]) [2, 0, 1] rfl ?_
      have hy2 : y = nI (wsO9 (n + 1)) := by
        rw [hy, wB2, ← hjj]
        exact nI_1 _
      have hy3 : y1 = nI (n + 1) := by
        rw [hy1]
        exact nI_1 _
      rw [hy2, hy3]
      exact hx
    · rw [ec, hjj, wE2]
      rfl
  | succ c ih =>
    intro j hj
    obtain ⟨ec, -⟩ := wsx_ch (wsO9 n + j) (by omega)
    have hcj := hc j (by omega)
    refine g_ldcS10 dX10_word_97 ?_
    refine g_iload_n dX10_word_99 rfl ?_
    refine g_strV (As := [.int (nI (wsO9 n + j))]) (rest := []) ca_X10_195 (cS_chr (d := 3) (by omega) (by omega)) (by omega) (by decide) rfl rfl (by decide) dX10_word_100 (fun r hr => ?_)
    subst hr
    refine g_bipush (32 : Int32) dX10_word_103 rfl ?_
    refine g_icmp_eq (tgt := 114) dX10_word_105 (by decide) (fun w => ?_) (fun _ => ?_)
    · exfalso
      rw [ec] at w
      have := (nI_eq (a := wsx (wsO9 n + j)) (b := 32) (by omega) (by omega)).mp w
      omega
    · refine g_iinc dX10_word_108 rfl (by decide) (fun y hy => ?_)
      refine g_goto (tgt := 97) dX10_word_111 (by decide) ?_
      refine g_sub (lv' := [(0, .ref (D.2.2 10 0)), (1, .int (nI n)), (2, .int y)]) [1, 2, 0] rfl ?_
      have hy2 : y = nI (wsO9 n + (j + 1)) := by
        rw [hy]
        exact nI_1 _
      rw [hy2]
      exact ih (j + 1) (by omega)
/-- what a compared word comes to -/
theorem w_69 {i : Nat} (hn : n < 21) (hi : i ≤ wsl n) (hT : tkM tb L μ) (hpi : p + i ≤ e) (heL : e ≤ L) (h20 : μ.1 10 0 20 = nI e) (h21 : μ.1 10 0 21 = nI p) (hy : wsx (wsO9 n + i) = 32 → p + i = e → Q (some (.int (nI n))) μ) (hno : ¬ (wsx (wsO9 n + i) = 32 ∧ p + i = e) → G l D RX10 cX10_word 4 (some .int) d Q Γ 97 [(0, .ref (D.2.2 10 0)), (1, .int (nI n)), (2, .int (nI (wsO9 n + 0)))] [] μ) : G l D RX10 cX10_word 4 (some .int) d Q Γ 69 [(0, .ref (D.2.2 10 0)), (1, .int (nI n)), (2, .int (nI (wsO9 n + 0))), (3, .int (nI i))] [] μ := by
  obtain ⟨wA, wB2, wC2, wD2, wE2⟩ := ws_n n hn
  have h700 := hT.2.1
  obtain ⟨ec, ec2⟩ := wsx_ch (wsO9 n + i) (by omega)
  refine g_ldcS10 dX10_word_69 ?_
  refine g_iload_n dX10_word_71 rfl ?_
  refine g_iload_n dX10_word_72 rfl ?_
  refine g_iadd dX10_word_73 ?_
  rw [nI_add, Nat.add_zero]
  refine g_strV (As := [.int (nI (wsO9 n + i))]) (rest := []) ca_X10_195 (cS_chr (d := 3) (by omega) (by omega)) (by omega) (by decide) rfl rfl (by decide) dX10_word_74 (fun r hr => ?_)
  subst hr
  refine g_bipush (32 : Int32) dX10_word_77 rfl ?_
  refine g_icmp_ne (tgt := 97) dX10_word_79 (by decide) (fun w => ?_) (fun w => ?_)
  · refine g_sub [0, 1, 2] rfl (hno (fun w2 => w ?_))
    rw [ec, w2.1]
    rfl
  · rw [ec] at w
    have e32 := (nI_eq (a := wsx (wsO9 n + i)) (b := 32) (by omega) (by omega)).mp w
    refine g_aload_n dX10_word_82 rfl ?_
    refine g_gfI fi_10_161 (by decide) dX10_word_83 ?_
    refine g_iload_n dX10_word_86 rfl ?_
    refine g_iadd dX10_word_87 ?_
    refine g_aload_n dX10_word_88 rfl ?_
    refine g_gfI fi_10_151 (by decide) dX10_word_89 ?_
    rw [h21, h20, nI_add]
    refine g_icmp_ne (tgt := 97) dX10_word_92 (by decide) (fun w2 => ?_) (fun w2 => ?_)
    · exact g_sub [0, 1, 2] rfl (hno (fun w3 => w2 (by rw [w3.2])))
    · have e2 := (nI_eq (by omega) (by omega)).mp w2
      refine g_iload_n dX10_word_95 rfl ?_
      exact g_iret dX10_word_96 rfl rfl (hy e32 e2)
theorem w_15 (hn : n < 21) (hT : tkM tb L μ) (heL : e ≤ L) (h20 : μ.1 10 0 20 = nI e) (h21 : μ.1 10 0 21 = nI p) (hy : mtW tb p e n → Q (some (.int (nI n))) μ) (hno : ¬ mtW tb p e n → G l D RX10 cX10_word 4 (some .int) d Q Γ 97 [(0, .ref (D.2.2 10 0)), (1, .int (nI n)), (2, .int (nI (wsO9 n + 0)))] [] μ) : ∀ (c i : Nat), i + c = wsl n → p + i ≤ e → (∀ j, j < i → tb (p + j) = wsx (wsO9 n + j)) → G l D RX10 cX10_word 4 (some .int) d Q Γ 15 [(0, .ref (D.2.2 10 0)), (1, .int (nI n)), (2, .int (nI (wsO9 n + 0))), (3, .int (nI i))] [] μ := by
  obtain ⟨wA, wB2, wC2, wD2, wE2⟩ := ws_n n hn
  have hc := ws_c n hn
  have h700 := hT.2.1
  intro c
  induction c with
  | zero =>
    intro i hi hpi hpre
    have hii : i = wsl n := by omega
    obtain ⟨ec, -⟩ := wsx_ch (wsO9 n + i) (by omega)
    refine g_ldcS10 dX10_word_15 ?_
    refine g_iload_n dX10_word_17 rfl ?_
    refine g_iload_n dX10_word_18 rfl ?_
    refine g_iadd dX10_word_19 ?_
    rw [nI_add, Nat.add_zero]
    refine g_strV (As := [.int (nI (wsO9 n + i))]) (rest := []) ca_X10_195 (cS_chr (d := 3) (by omega) (by omega)) (by omega) (by decide) rfl rfl (by decide) dX10_word_20 (fun r hr => ?_)
    subst hr
    refine g_bipush (32 : Int32) dX10_word_23 rfl ?_
    refine g_icmp_eq (tgt := 69) dX10_word_25 (by decide) (fun _ => ?_) (fun w => absurd ?_ w)
    · have hw69 := w_69 (l := l) (D := D) (d := d) (Γ := Γ) (Q := Q) (i := i) hn (by omega) hT hpi heL h20 h21 (fun _ he => hy ⟨by omega, fun j hj => hpre j (by omega)⟩) (fun w => hno (fun m => w ⟨by rw [hii]; exact wE2, by have := m.1; omega⟩))
      rw [Nat.add_zero] at hw69
      exact hw69
    · rw [ec, hii, wE2]
      rfl
  | succ c ih =>
    intro i hi hpi hpre
    obtain ⟨ec, -⟩ := wsx_ch (wsO9 n + i) (by omega)
    have hci := hc i (by omega)
    have n32 : ¬ wsx (wsO9 n + i) = 32 := by omega
    refine g_ldcS10 dX10_word_15 ?_
    refine g_iload_n dX10_word_17 rfl ?_
    refine g_iload_n dX10_word_18 rfl ?_
    refine g_iadd dX10_word_19 ?_
    rw [nI_add]
    refine g_strV (As := [.int (nI (wsO9 n + 0 + i))]) (rest := []) ca_X10_195 (cS_chr (d := 3) (by omega) (by omega)) (by omega) (by decide) rfl rfl (by decide) dX10_word_20 (fun r hr => ?_)
    subst hr
    refine g_bipush (32 : Int32) dX10_word_23 rfl ?_
    refine g_icmp_eq (tgt := 69) dX10_word_25 (by decide) (fun w => ?_) (fun _ => ?_)
    · exfalso
      rw [Nat.add_zero, ec] at w
      exact n32 ((nI_eq (a := wsx (wsO9 n + i)) (b := 32) (by omega) (by omega)).mp w)
    refine g_aload_n dX10_word_28 rfl ?_
    refine g_gfI fi_10_161 (by decide) dX10_word_29 ?_
    refine g_iload_n dX10_word_32 rfl ?_
    refine g_iadd dX10_word_33 ?_
    refine g_aload_n dX10_word_34 rfl ?_
    refine g_gfI fi_10_151 (by decide) dX10_word_35 ?_
    rw [h21, h20, nI_add]
    refine g_icmp_ge (tgt := 69) dX10_word_38 (by decide) (fun w => ?_) (fun w => ?_)
    · have hge := (nI_leI (by omega) (by omega)).mp w
      exact w_69 hn (by omega) hT hpi heL h20 h21 (fun w2 => absurd w2 n32) (fun _ => hno (fun m => by have := m.1; omega))
    · have hlt : p + i < e := Nat.lt_of_not_le (fun w2 => w (nI_le w2 (by omega)))
      obtain ⟨et, et2⟩ := hT.2.2 (p + i) (by omega)
      refine g_aload_n dX10_word_41 rfl ?_
      refine g_gfR fl_10_7 rfl (by decide) dX10_word_42 ?_
      refine g_aload_n dX10_word_45 rfl ?_
      refine g_gfI fi_10_161 (by decide) dX10_word_46 ?_
      refine g_iload_n dX10_word_49 rfl ?_
      refine g_iadd dX10_word_50 ?_
      refine g_iald (p + i) (by decide) rfl (by show p + i < 700; omega) (by decide) (by rw [h21, nI_add]) dX10_word_51 ?_
      refine g_ldcS10 dX10_word_52 ?_
      refine g_iload_n dX10_word_54 rfl ?_
      refine g_iload_n dX10_word_55 rfl ?_
      refine g_iadd dX10_word_56 ?_
      rw [nI_add]
      refine g_strV (As := [.int (nI (wsO9 n + 0 + i))]) (rest := [.int (μ.1 705 0 (p + i))]) ca_X10_195 (cS_chr (d := 3) (by omega) (by omega)) (by omega) (by decide) rfl rfl (Nat.le_of_ble_eq_true rfl) dX10_word_57 (fun r hr => ?_)
      subst hr
      refine g_icmp_ne (tgt := 69) dX10_word_60 (by decide) (fun w2 => ?_) (fun w2 => ?_)
      · refine w_69 hn (by omega) hT hpi heL h20 h21 (fun w3 => absurd w3 n32) (fun _ => hno (fun m => w2 ?_))
        rw [Nat.add_zero, ec, et, m.2 i (by omega)]
      · rw [Nat.add_zero, ec, et] at w2
        have etb := (nI_eq (by omega) (by omega)).mp w2
        refine g_iinc dX10_word_63 rfl (by decide) (fun y hy2 => ?_)
        refine g_goto (tgt := 15) dX10_word_66 (by decide) ?_
        refine g_sub (lv' := [(0, .ref (D.2.2 10 0)), (1, .int (nI n)), (2, .int (nI (wsO9 n + 0))), (3, .int y)]) [1, 2, 3, 0] rfl ?_
        have hy3 : y = nI (i + 1) := by
          rw [hy2]
          exact nI_1 _
        rw [hy3]
        refine ih (i + 1) (by omega) (by omega) (fun j hj => ?_)
        by_cases ej : j = i
        · rw [ej]; exact etb
        · exact hpre j (by omega)
theorem w_4 (hT : tkM tb L μ) (hpe : p ≤ e) (heL : e ≤ L) (h20 : μ.1 10 0 20 = nI e) (h21 : μ.1 10 0 21 = nI p) {v : Int32} (hv : Q (some (.int v)) μ) : ∀ (c n : Nat), n + c = 21 → mtF tb p e c n = v → G l D RX10 cX10_word 4 (some .int) d Q Γ 4 [(0, .ref (D.2.2 10 0)), (1, .int (nI n)), (2, .int (nI (wsO9 n)))] [] μ := by
  intro c
  induction c with
  | zero =>
    intro n hn hm
    obtain rfl : n = 21 := by omega
    refine g_iload_n dX10_word_4 rfl ?_
    refine g_ldcS10 dX10_word_5 ?_
    refine g_strV (As := []) (rest := [.int (nI (wsO9 21))]) ca_X10_190 (cS_len (d := 1) (by omega)) (by omega) (by decide) rfl rfl (Nat.le_of_ble_eq_true rfl) dX10_word_7 (fun r hr => ?_)
    subst hr
    refine g_icmp_ge (tgt := 123) dX10_word_10 (by decide) (fun _ => ?_) (fun w => absurd (by decide) w)
    refine g_iconst (-1 : Int32) dX10_word_123 rfl ?_
    refine g_iret dX10_word_124 rfl rfl ?_
    rw [mtF] at hm
    rw [hm]
    exact hv
  | succ c ih =>
    intro n hn hm
    have hn21 : n < 21 := by omega
    obtain ⟨wA, wB2, wC2, wD2, wE2⟩ := ws_n n hn21
    rw [mtF] at hm
    refine g_iload_n dX10_word_4 rfl ?_
    refine g_ldcS10 dX10_word_5 ?_
    refine g_strV (As := []) (rest := [.int (nI (wsO9 n))]) ca_X10_190 (cS_len (d := 1) (by omega)) (by omega) (by decide) rfl rfl (Nat.le_of_ble_eq_true rfl) dX10_word_7 (fun r hr => ?_)
    subst hr
    refine g_icmp_ge (tgt := 123) dX10_word_10 (by decide) (fun w => absurd ((nI_leI (by omega) (by omega)).mp w) (by omega)) (fun _ => ?_)
    refine g_iconst (0 : Int32) dX10_word_13 rfl ?_
    refine g_istore_n dX10_word_14 (by decide) (fun y hy => ?_)
    subst hy
    refine g_sub (lv' := [(0, .ref (D.2.2 10 0)), (1, .int (nI n)), (2, .int (nI (wsO9 n + 0))), (3, .int (nI 0))]) [1, 2, 3, 0] rfl ?_
    refine w_15 hn21 hT heL h20 h21 (fun m => ?_) (fun m => ?_) (wsl n) 0 (by omega) (by omega) (fun j hj => absurd hj (Nat.not_lt_zero _))
    · rw [if_pos m] at hm
      rw [hm]
      exact hv
    · rw [if_neg m] at hm
      exact w_97 hn21 (ih (n + 1) (by omega) hm) (wsl n) 0 (by omega)
theorem word_ok : WordC l D lgW := by
  intro d μ tb L p e hT hpe heL hl h20 h21
  refine Ctr_of rfl (by decide) (Nat.le_of_ble_eq_true rfl) (fun Γ => ?_)
  refine g_sub (lv' := [(0, .ref (D.2.2 10 0))]) [0] rfl ?_
  refine g_iconst (0 : Int32) dX10_word_0 rfl ?_
  refine g_istore_n dX10_word_1 (by decide) (fun y hy => ?_)
  refine g_iconst (0 : Int32) dX10_word_2 rfl ?_
  refine g_istore_n dX10_word_3 (by decide) (fun y1 hy1 => ?_)
  subst hy hy1
  refine g_sub (lv' := [(0, .ref (D.2.2 10 0)), (1, .int (nI 0)), (2, .int (nI (wsO9 0)))]) [2, 1, 0] rfl ?_
  refine w_4 hT hpe heL h20 h21 (v := tkW lgW tb p e) ⟨_, rfl, rfl, rfl⟩ 21 0 (by omega) ?_
  rw [mtF_tk hpe hl 21 0 (by omega)]
  rfl
end WD
