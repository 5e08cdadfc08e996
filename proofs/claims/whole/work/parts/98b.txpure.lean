/-! TEXT as a pure function of the state -/
/-- goal and base as told; of those that aren't told what the class happens to hold -/
def xgoF (δ : dfT) (Gf : Nat → Int32 × Int32) : Nat → Int32 := fun p => if p < δ.1.1 then δ.1.2.2.1 p else (Gf p).1
def xbaF (δ : dfT) (Gf : Nat → Int32 × Int32) : Nat → Int32 := fun p => if p < δ.1.1 then δ.1.2.2.2.1 p else (Gf p).2
def xtdF (δ : dfT) (Gf : Nat → Int32 × Int32) : tdV := (((δ.2.2.2.2.1.1, δ.2.2.2.2.1.2.2.1, δ.2.2.2.2.1.2.2.2), (δ.1.1, ix (δ.2.2.2.1 4)), (δ.2.2.2.1 5, δ.2.2.2.1 6, δ.2.2.2.1 3), ((fun _ => 0), (fun _ => 0), δ.1.2.2.2.2), (-1, 0, fun _ => true)), δ.2.1.1, (δ.2.1.2.2.1, δ.2.1.2.2.2.1, δ.2.2.1.2, xgoF δ Gf, xbaF δ Gf), δ.2.1.2.2.2.2, δ.1.2.1, δ.2.1.2.1, (nI δ.2.2.1.1, δ.2.2.2.1 7, δ.2.2.2.1 8, nI δ.2.2.2.2.1.2.1))
def xwdF (δ : dfT) (Gf : Nat → Int32 × Int32) : wV := ((fun p => psn (xgoF δ Gf p) (xbaF δ Gf p)), (fun p j => if j < 6 then δ.2.2.1.2 (6 * p + j) else 0), 0, 0, δ.2.2.2.1 8)
def xntF : nTV := ((fun _ => 0), (fun _ => 0), (fun _ => 0), (fun _ => 0), (fun _ => 0))
def xtpB (σ : sV) : Nat → Nat := fun k => ix (σ.2.2.2.2.2.2.1 k)
def txN (σ : sV) (δ : dfT) (Gf : Nat → Int32 × Int32) : sV := (xtdF δ Gf, xwdF δ Gf, (0, -1, xntF), none, (0, (fun _ => xwdF δ Gf), (fun _ => (0, 0, 0, 0))), (0, σ.2.2.2.2.2.2.1, 0, -1))
def txO (σ : sV) (Gf : Nat → Int32 × Int32) (R : rsL dfT) : sV := match R with | .inl (k, q) => setP σ (0, σ.2.2.2.2.2.2.1, k, nI q) | .inr (δ, _) => txN σ δ Gf
def txA (R : rsL dfT) : Int32 := match R with | .inl _ => -1 | .inr (_, n) => nI n
abbrev txP (σ : sV) (x : Int32) : Prop := 0 ≤ x.toInt ∧ ix x ≤ σ.2.2.2.2.2.1
noncomputable def txS (σ : sV) (x : Int32) (Gf : Nat → Int32 × Int32) : sV := if txP σ x then txO σ Gf (txR lgW (xtpB σ) (ix x)) else σ
noncomputable def txV (σ : sV) (x : Int32) : Int32 := if txP σ x then txA (txR lgW (xtpB σ) (ix x)) else -2
theorem txB_ok {σ : sV} {k v : Int32} (h : sOkS σ) : sOkS (setP σ (0, σ.2.2.2.2.2.2.1, k, v)) := ⟨h.1, h.2.1, h.2.2.1, h.2.2.2.1, h.2.2.2.2.1, ⟨Nat.zero_le _, fun k hk => absurd hk (Nat.not_lt_zero _)⟩⟩
theorem txN_ok {σ : sV} {δ : dfT} {Gf : Nat → Int32 × Int32} (hO : okD δ) : sOkS (txN σ δ Gf) := by
  obtain ⟨⟨b1, b2, b3, b4, b5⟩, ⟨r1, r2, r3, r4, r5, r6⟩, hL⟩ := hO
  have z0 : ∀ m : Nat, (0 : Int32).toInt ≤ (m : Int) := fun m => by rw [show (0 : Int32).toInt = 0 from rfl]; omega
  have pg : ∀ p, p < δ.1.1 → inR (xgoF δ Gf p) 0 99 ∧ inR (xbaF δ Gf p) 0 99 := by
    intro p hp
    unfold xgoF xbaF
    rw [if_pos hp, if_pos hp]
    exact r1 p hp
  have bd : 0 < ix (δ.2.2.2.1 4) ∧ ix (δ.2.2.2.1 4) ≤ 14 := by
    have := r4.1
    have := r4.2
    unfold ix
    omega
  refine ⟨⟨⟨b1, bd.1, bd.2, fun r hr => ⟨?_, ?_, (hL r hr).2.2⟩⟩, b2, ⟨fun z hz => (r2 z hz).2.1, r3, pg⟩, fun z hz => ⟨(r2 z hz).1, (r2 z hz).2.1⟩, fun z hz => (r2 z hz).2.2, r5, r6⟩, ?_, ⟨Nat.zero_le _, Or.inl rfl, fun k hk => absurd hk (Nat.not_lt_zero _)⟩, fun V hV => (nomatch hV), ⟨Nat.zero_le _, rfl, fun k hk => absurd hk (Nat.not_lt_zero _)⟩, ⟨Nat.zero_le _, fun k hk => absurd hk (Nat.not_lt_zero _)⟩⟩
  · show δ.2.2.2.2.1.2.2.1 r ≤ 64
    have := (b5 r hr).1
    omega
  · show δ.2.2.2.2.1.2.2.2 r ≤ 64
    have := (b5 r hr).2
    omega
  · refine ⟨⟨fun p hp => ⟨⟨(pg p hp).1, (pg p hp).2, ?_⟩, ?_⟩, fun k hk => ⟨?_, ?_⟩, fun k _ _ => rfl, fun k _ => Or.inr rfl⟩, fun p hp => ?_, fun p hp j hj => ?_, r6.1, Nat.zero_le _, fun k hk j hj => ?_, fun k hk j hj => ?_⟩
    · exact (by decide : 0 ≤ (0 : Int32).toInt ∧ (0 : Int32).toInt ≤ 2000)
    · exact (by decide : 0 ≤ (0 : Int32).toInt ∧ (0 : Int32).toInt ≤ ((0 : Nat) : Int))
    · exact (by decide : 0 ≤ (0 : Int32).toInt)
    · exact z0 _
    · exact (by decide : (0 : Int32).toInt ≤ 999)
    · show inR (if j < 6 then δ.2.2.1.2 (6 * p + j) else 0) 0 9
      rw [if_pos hj]
      exact r3 _ (by omega)
    · show psn (xgoF δ Gf k) (xbaF δ Gf k) j = 0
      unfold psn
      rw [if_neg (by omega), if_neg (by omega), if_neg (by omega)]
    · show (if j < 6 then δ.2.2.1.2 (6 * k + j) else 0) = 0
      rw [if_neg (by omega)]
theorem txL_le {lg : Nat → Int32} {tb : Nat → Nat} {L n : Nat} {δ' : dfT} : ∀ (m : Nat) (δ : dfT) (p k : Nat), txL lg tb L m δ p k = .inr (δ', n) → n ≤ k + m := by
  intro m
  induction m with
  | zero =>
    intro δ p k h
    rw [txL] at h
    cases h
    omega
  | succ m ih =>
    intro δ p k h
    rw [txL] at h
    split at h
    · cases h
      omega
    · split at h
      · cases h
      · have := ih _ _ _ h
        omega
