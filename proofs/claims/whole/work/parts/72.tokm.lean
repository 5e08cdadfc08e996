/-! TOKENS of the reference -/
def tkM (tb : Nat → Nat) (L : Nat) (μ : gMem) : Prop := μ.1 10 0 19 = nI L ∧ L ≤ 700 ∧ ∀ k, k < L → μ.1 705 0 k = nI (tb k) ∧ tb k < 256
def nkM (μ μ' : gMem) : Prop := (∀ k j, ¬ (k = 10 ∧ j = 0) → μ'.1 k j = μ.1 k j) ∧ (∀ j, ¬ (20 ≤ j ∧ j ≤ 23) → μ'.1 10 0 j = μ.1 10 0 j) ∧ μ'.2 = μ.2
theorem nkM.rf {μ : gMem} : nkM μ μ := ⟨fun _ _ _ => rfl, fun _ _ => rfl, rfl⟩
theorem nkM.tr {μ μ1 μ2 : gMem} (h : nkM μ μ1) (h2 : nkM μ1 μ2) : nkM μ μ2 := ⟨fun k j a => (h2.1 k j a).trans (h.1 k j a), fun j a => (h2.2.1 j a).trans (h.2.1 j a), h2.2.2.trans h.2.2⟩
theorem nkM.put {μ μ1 : gMem} {j : Nat} {v : Int32} (h : nkM μ μ1) (hj : 20 ≤ j ∧ j ≤ 23) : nkM μ (gsI μ1 10 0 j v) := ⟨fun a b c => by rw [gsI_off (by omega)]; exact h.1 a b c, fun a c => by rw [gsI_at, if_neg (by omega)]; exact h.2.1 a c, h.2.2⟩
theorem tkM.of {tb : Nat → Nat} {L : Nat} {μ μ' : gMem} (h : tkM tb L μ) (hF : nkM μ μ') : tkM tb L μ' := by
  refine ⟨by rw [hF.2.1 19 (by omega)]; exact h.1, h.2.1, fun k hk => ?_⟩
  rw [hF.1 705 0 (by omega)]; exact h.2.2 k hk
def hrV (tb : Nat → Nat) (L a : Nat) : Int32 := if a < L then nI (tb a) else -1
section TM
variable {l : Launch} {D : gD} {d : Nat} {μ : gMem} {lg : Nat → Int32} {tb : Nat → Nat} {L : Nat}
theorem c_X10_here {a : Nat} (h : tkM tb L μ) (ha : a ≤ L) (h4 : μ.1 10 0 20 = nI a) : Ctr l D d yX10_here cX10_here 1 (some .int) [.ref (D.2.2 10 0)] μ (pI (fun v μ' => v = hrV tb L a ∧ μ' = μ)) := by
  have h7 := h.2.1
  refine en_X10_here (fun Γ => bl_X10_here_0 (by decide) ?_)
  rw [h.1, h4, nI_leI (by omega) (by omega)]
  refine ⟨fun z => ⟨by rw [hrV, if_neg (by omega)], rfl⟩, fun z => ⟨a, by omega, rfl, ?_, rfl⟩⟩
  rw [hrV, if_pos (by omega)]
  exact (h.2.2 a (by omega)).1
theorem hr_eq {a c : Nat} (h : tkM tb L μ) (hc : c < 256) : hrV tb L a = nI c ↔ nxB tb L a = c := by
  unfold hrV nxB
  by_cases w : a < L
  · have := (h.2.2 a w).2
    rw [if_pos w, if_pos w, nI_eq (by omega) (by omega)]
  · rw [if_neg w, if_neg w]
    refine ⟨fun z => absurd z.symm (nI_nm1 (by omega)), fun z => by omega⟩
theorem hr_iw {a lo hi : Nat} (h : tkM tb L μ) (hl : lo < 256) (hh : hi < 256) : iw (hrV tb L a) (nI lo) (nI hi) = 0 ↔ ¬ (a < L ∧ lo ≤ tb a ∧ tb a ≤ hi) := by
  unfold hrV
  by_cases w : a < L
  · have := (h.2.2 a w).2
    rw [if_pos w, nI_iw (by omega) (by omega) (by omega)]
    omega
  · rw [if_neg w]
    refine ⟨fun _ z => w z.1, fun _ => ?_⟩
    rw [iw_in]
    unfold inR
    rw [nI_toInt (by omega), nI_toInt (by omega)]
    have : (-1 : Int32).toInt = -1 := by decide
    omega
theorem c_X10_sign {a : Nat} {x1 : Int32} (hd : 1 ≤ d) (h : tkM tb L μ) (ha : a < L) (h4 : μ.1 10 0 20 = nI a) (hx1 : x1 = nI (tb a)) : Ctr l D d yX10_sign cX10_sign 2 none [.ref (D.2.2 10 0), .int x1] μ (pV (fun μ' => nkM μ μ' ∧ μ'.1 10 0 20 = nI (a + sgL (tb a) (nxB tb L (a + 1))) ∧ μ'.1 10 0 21 = μ.1 10 0 21 ∧ μ'.1 10 0 22 = sortK (sgK (tb a) (nxB tb L (a + 1))) ∧ (¬ sgK (tb a) (nxB tb L (a + 1)) = 37 → μ'.1 10 0 23 = sgV (sgK (tb a) (nxB tb L (a + 1)))))) := by
  have h7 := h.2.1
  have hb := (h.2.2 a ha).2
  refine en_X10_sign (fun Γ => bl_X10_sign_0 (by decide) ?_)
  rintro μ1 e1
  rw [h4, nI_1] at e1
  have F1 : nkM μ μ1 := by rw [e1]; exact nkM.rf.put (by omega)
  have s1 : μ1.1 10 0 20 = nI (a + 1) := by rw [e1, gsI_s]
  have p1 : μ1.1 10 0 21 = μ.1 10 0 21 := by rw [e1, gsI_at, if_neg (by omega)]
  clear e1
  have k : ∀ c, c < 256 → (x1 = nI c ↔ tb a = c) := fun c hc => by rw [hx1]; exact nI_eq (by omega) (by omega)
  generalize hx : nxB tb L (a + 1) = nx
  generalize hq : (fun μ' : gMem => nkM μ μ' ∧ μ'.1 10 0 20 = nI (a + sgL (tb a) nx) ∧ μ'.1 10 0 21 = μ.1 10 0 21 ∧ μ'.1 10 0 22 = sortK (sgK (tb a) nx) ∧ (¬ sgK (tb a) nx = 37 → μ'.1 10 0 23 = sgV (sgK (tb a) nx))) = q
  -- the end
  have e5 : ∀ (v : Int32) (n : Nat) (μ2 : gMem), nkM μ μ2 → μ2.1 10 0 20 = nI (a + 1) → μ2.1 10 0 21 = μ.1 10 0 21 → μ2.1 10 0 22 = sortK (sgK (tb a) nx) → μ2.1 10 0 23 = v → (¬ sgK (tb a) nx = 37 → v = sgV (sgK (tb a) nx)) → sgL (tb a) nx = (if v < (256 : Int32) then 1 else 2) → pt_X10_sign_5 l D d q Γ 0 μ2 := by
    intro v n μ2 F s p so va hv hL
    refine bl_X10_sign_5 (by decide) ?_
    rw [va]
    refine ⟨fun z => ?_, fun z => ?_⟩
    · rw [← hq]
      rw [if_pos z] at hL
      exact ⟨F, by rw [hL]; exact s, p, so, fun w => by rw [va]; exact hv w⟩
    · rw [if_neg z] at hL
      rintro μ3 e3
      rw [s, nI_1] at e3
      rw [← hq]
      exact ⟨by rw [e3]; exact F.put (by omega), by rw [e3, gsI_s, hL], by rw [e3, gsI_at, if_neg (by omega)]; exact p, by rw [e3, gsI_at, if_neg (by omega)]; exact so, fun w => by rw [e3, gsI_at, if_neg (by omega), va]; exact hv w⟩
  have two : ∀ s : Int32, s = sortK (sgK (tb a) nx) → (∀ μ3, nkM μ μ3 → μ3.1 10 0 20 = nI (a + 1) → μ3.1 10 0 21 = μ.1 10 0 21 → μ3.1 10 0 22 = sortK (sgK (tb a) nx) → μ3.1 10 0 23 = x1 → ((¬ x1 = (60 : Int32)) → pt_X10_sign_3 l D d q Γ 0 x1 μ3) ∧ ((x1 = (60 : Int32)) → ∃ (d_4 : Nat) (q_5 : Int32 → gMem → Prop), d_4 < d ∧ Ctr l D d_4 yX10_here cX10_here 1 (some .int) [.ref (D.2.2 10 0)] μ3 (pI q_5) ∧ ∀ (v_9 : Int32) (μ_8 : gMem), q_5 v_9 μ_8 → ((¬ v_9 = (61 : Int32)) → pt_X10_sign_3 l D d q Γ 0 x1 μ_8) ∧ ((v_9 = (61 : Int32)) → ∀ μ_12 : gMem, μ_12 = gsI μ_8 10 0 23 (256 : Int32) → pt_X10_sign_3 l D d q Γ 0 x1 μ_12))) → pt_X10_sign_2 l D d q Γ 0 x1 0 s μ1 := by
    intro s hs hh
    refine bl_X10_sign_2 (by decide) (by decide) ?_
    rintro μ2 e2 μ3 e3
    refine hh μ3 (by rw [e3, e2]; exact (F1.put (by omega)).put (by omega)) ?_ ?_ ?_ ?_
    · rw [e3, gsI_at, if_neg (by omega), e2, gsI_at, if_neg (by omega)]; exact s1
    · rw [e3, gsI_at, if_neg (by omega), e2, gsI_at, if_neg (by omega)]; exact p1
    · rw [e3, gsI_at, if_neg (by omega), e2, gsI_s]; exact hs
    · rw [e3, gsI_s]
  have oth : ∀ s : Int32, ¬ tb a = 60 → ¬ tb a = 62 → s = sortK (sgK (tb a) nx) → (¬ sgK (tb a) nx = 37 → nI (tb a) = sgV (sgK (tb a) nx)) → pt_X10_sign_2 l D d q Γ 0 x1 0 s μ1 := by
    intro s n60 n62 hs hv
    have m60 : ¬ x1 = (60 : Int32) := fun w => n60 ((k 60 (by omega)).mp w)
    have m62 : ¬ x1 = (62 : Int32) := fun w => n62 ((k 62 (by omega)).mp w)
    refine two s hs (fun μ3 F s p so va => ⟨fun _ => bl_X10_sign_3 (by decide) ⟨fun _ => bl_X10_sign_4 (by decide) ⟨fun _ => e5 x1 1 μ3 F s p so va (fun w => by rw [hx1]; exact hv w) ?_, fun z => absurd z m62⟩, fun z => absurd z m60⟩, fun z => absurd z m60⟩)
    rw [hx1, if_pos (by rw [show (256 : Int32) = nI 256 from rfl]; exact nI_lt (by omega) (by omega)), sgL, if_neg (by omega)]
  have lt60 : tb a = 60 → sortK (sgK (tb a) nx) = 3 ∧ pt_X10_sign_2 l D d q Γ 0 x1 0 3 μ1 := by
    intro eb
    have ex : x1 = 60 := (k 60 (by omega)).mpr eb
    have m62 : ¬ x1 = (62 : Int32) := by rw [ex]; decide
    have hs : sortK (sgK (tb a) nx) = 3 := by
      rw [eb, sgK, if_pos rfl]
      split
      · rfl
      · split <;> rfl
    refine ⟨hs, two 3 hs.symm (fun μ3 F s p so va => ⟨fun z => absurd ex z, fun _ => ⟨0, _, by omega, c_X10_here (h.of F) (by omega) s, ?_⟩⟩)⟩
    rintro v μ4 ⟨ev, em⟩
    rw [em, ev, show (61 : Int32) = nI 61 from rfl, hr_eq h (by omega), hx]
    have T := h.of F
    refine ⟨fun w => bl_X10_sign_3 (by decide) ⟨fun z => absurd ex z, fun _ => ⟨0, _, by omega, c_X10_here (h.of F) (by omega) s, ?_⟩⟩, fun w => ?_⟩
    · rintro v μ4 ⟨ev, em⟩
      rw [em, ev, show (62 : Int32) = nI 62 from rfl, hr_eq h (by omega), hx]
      refine ⟨fun w2 => bl_X10_sign_4 (by decide) ⟨fun _ => e5 x1 1 μ3 F s p so va (fun _ => ?_) ?_, fun z => absurd z m62⟩, fun w2 => ?_⟩
      · rw [ex, eb, sgK, if_pos rfl, if_neg w, if_neg w2]; rfl
      · rw [ex, if_pos (by decide), eb, sgL, if_neg (by omega)]
      · rintro μ5 e
        refine bl_X10_sign_4 (by decide) ⟨fun _ => e5 257 2 μ5 (by rw [e]; exact F.put (by omega)) (by rw [e, gsI_at, if_neg (by omega)]; exact s) (by rw [e, gsI_at, if_neg (by omega)]; exact p) (by rw [e, gsI_at, if_neg (by omega)]; exact so) (by rw [e, gsI_s]) (fun _ => by rw [eb, w2]; rfl) (by rw [eb, w2]; rfl), fun z => absurd z m62⟩
    · rintro μ5 e
      have F5 : nkM μ μ5 := by rw [e]; exact F.put (by omega)
      have s5 : μ5.1 10 0 20 = nI (a + 1) := by rw [e, gsI_at, if_neg (by omega)]; exact s
      have p5 : μ5.1 10 0 21 = μ.1 10 0 21 := by rw [e, gsI_at, if_neg (by omega)]; exact p
      have so5 : μ5.1 10 0 22 = sortK (sgK (tb a) nx) := by rw [e, gsI_at, if_neg (by omega)]; exact so
      have v5 : μ5.1 10 0 23 = 256 := by rw [e, gsI_s]
      refine bl_X10_sign_3 (by decide) ⟨fun z => absurd ex z, fun _ => ⟨0, _, by omega, c_X10_here (h.of F5) (by omega) s5, ?_⟩⟩
      rintro v μ6 ⟨ev, em⟩
      rw [em, ev, show (62 : Int32) = nI 62 from rfl, hr_eq h (by omega), hx]
      refine ⟨fun w2 => bl_X10_sign_4 (by decide) ⟨fun _ => e5 256 2 μ5 F5 s5 p5 so5 v5 (fun _ => by rw [eb, w]; rfl) (by rw [eb, w]; rfl), fun z => absurd z m62⟩, fun w2 => by omega⟩
  have lt62 : tb a = 62 → sortK (sgK (tb a) nx) = 3 ∧ pt_X10_sign_2 l D d q Γ 0 x1 0 3 μ1 := by
    intro eb
    have ex : x1 = 62 := (k 62 (by omega)).mpr eb
    have m60 : ¬ x1 = (60 : Int32) := by rw [ex]; decide
    have hs : sortK (sgK (tb a) nx) = 3 := by
      rw [eb, sgK, if_neg (by omega), if_pos rfl]
      split <;> rfl
    refine ⟨hs, two 3 hs.symm (fun μ3 F s p so va => ⟨fun _ => bl_X10_sign_3 (by decide) ⟨fun _ => bl_X10_sign_4 (by decide) ⟨fun z => absurd ex z, fun _ => ⟨0, _, by omega, c_X10_here (h.of F) (by omega) s, ?_⟩⟩, fun z => absurd z m60⟩, fun z => absurd z m60⟩)⟩
    rintro v μ4 ⟨ev, em⟩
    rw [em, ev, show (61 : Int32) = nI 61 from rfl, hr_eq h (by omega), hx]
    refine ⟨fun w => e5 x1 1 μ3 F s p so va (fun _ => ?_) ?_, fun w => ?_⟩
    · rw [ex, eb, sgK, if_neg (by omega), if_pos rfl, if_neg w]; rfl
    · rw [ex, if_pos (by decide), eb, sgL, if_neg (by omega)]
    · rintro μ5 e
      exact e5 258 2 μ5 (by rw [e]; exact F.put (by omega)) (by rw [e, gsI_at, if_neg (by omega)]; exact s) (by rw [e, gsI_at, if_neg (by omega)]; exact p) (by rw [e, gsI_at, if_neg (by omega)]; exact so) (by rw [e, gsI_s]) (fun _ => by rw [eb, w]; rfl) (by rw [eb, w]; rfl)
  have ot3 : ∀ c, c < 256 → ¬ c = 60 → ¬ c = 62 → sortK (sgK c nx) = 3 → nI c = sgV (sgK c nx) → x1 = nI c → pt_X10_sign_1 l D d q Γ 0 x1 0 μ1 := by
    intro c hc c1 c2 hs hv z
    have eb := (k c hc).mp z
    exact bl_X10_sign_1 (by decide) (by decide) (oth 3 (by omega) (by omega) (by rw [eb]; exact hs.symm) (fun _ => by rw [eb]; exact hv))
  refine ⟨fun z => ot3 59 (by omega) (by omega) (by omega) rfl rfl z, fun n59 => ⟨fun z => ot3 40 (by omega) (by omega) (by omega) rfl rfl z, fun n40 => ⟨fun z => ot3 41 (by omega) (by omega) (by omega) rfl rfl z, fun n41 => ⟨fun z => ot3 43 (by omega) (by omega) (by omega) rfl rfl z, fun n43 => ⟨fun z => ot3 45 (by omega) (by omega) (by omega) rfl rfl z, fun n45 => ⟨fun z => ot3 42 (by omega) (by omega) (by omega) rfl rfl z, fun n42 => ⟨fun z => ot3 47 (by omega) (by omega) (by omega) rfl rfl z, fun n47 => ⟨fun z => bl_X10_sign_1 (by decide) (by decide) (lt60 ((k 60 (by omega)).mp z)).2, fun n60 => ⟨fun z => ot3 61 (by omega) (by omega) (by omega) rfl rfl z, fun n61 => ⟨fun n62 => ?_, fun z => bl_X10_sign_1 (by decide) (by decide) (lt62 ((k 62 (by omega)).mp z)).2⟩⟩⟩⟩⟩⟩⟩⟩⟩⟩
  have q : ∀ c, c < 256 → ¬ x1 = nI c → ¬ tb a = c := fun c hc n w => n ((k c hc).mpr w)
  have e37 : sgK (tb a) nx = 37 := by
    rw [sgK, if_neg (q 60 (by omega) n60), if_neg (q 62 (by omega) n62), if_neg (q 61 (by omega) n61), if_neg (q 43 (by omega) n43), if_neg (q 45 (by omega) n45), if_neg (q 42 (by omega) n42), if_neg (q 47 (by omega) n47), if_neg (q 40 (by omega) n40), if_neg (q 41 (by omega) n41), if_neg (q 59 (by omega) n59)]
  exact oth 5 (q 60 (by omega) n60) (q 62 (by omega) n62) (by rw [e37]; rfl) (fun w => absurd e37 w)
end TM
