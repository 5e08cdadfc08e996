/-! THE FIRST STATE -/
theorem m1_off {k i z : Nat} (h : k < 737 ∨ 751 < k) : (mst mu0 0).1 k i z = mu0.1 k i z := mlay_off (by omega) (by omega) (by omega)
theorem m1_row {k i : Nat} (h : k < 737 ∨ 751 < k) : (mst mu0 0).1 k i = mu0.1 k i := funext (fun _ => m1_off h)
def wV0 : wV := (fun _ _ => 0, fun _ _ => 0, 0, 0, 0)
def wE0 : wEnv := ((fun _ => (0, 0), fun _ => 0, fun _ => 0), (0, 7), (0, 0, 0), (fun _ => 0, fun _ => 0, fun _ => 0), (-1, 0, fun _ => true))
def sg0 : sV := ((wE0, 0, (fun _ => 0, fun _ => 0, fun _ => 0, fun _ => 0, fun _ => 0), fun _ => 0, fun _ => 0, fun _ => 0, (0, 0, 0, 0)), wV0, (0, -1, (fun _ => 0, fun _ => 0, fun _ => 0, fun _ => 0, fun _ => 0)), none, (0, fun _ => wV0, fun _ => (0, 0, 0, 0)), (0, fun _ => 0, 0, -1))
theorem inR0 {a b : Int} (ha : a ≤ 0) (hb : 0 ≤ b) : inR 0 a b := ⟨ha, hb⟩
theorem sg0_ok : sOkS sg0 := by
  refine ⟨⟨⟨Nat.zero_le _, by decide, by decide, fun r _ => ⟨Nat.zero_le _, Nat.zero_le _, fun h => absurd h (Nat.lt_irrefl 0)⟩⟩, Nat.zero_le _, ⟨fun z hz => absurd hz (Nat.not_lt_zero z), fun k _ => inR0 (by decide) (by decide), fun p hp => absurd hp (Nat.not_lt_zero p)⟩, fun z hz => absurd hz (Nat.not_lt_zero z), fun z hz => absurd hz (Nat.not_lt_zero z), inR0 (by decide) (by decide), inR0 (by decide) (by decide)⟩, ?_, ?_, fun V h => (by cases h), ?_, Nat.zero_le _, fun k hk => absurd hk (Nat.not_lt_zero k)⟩
  · refine ⟨⟨fun p hp => absurd hp (Nat.not_lt_zero p), fun k _ => ⟨(show (0 : Int) ≤ (0 : Int32).toInt by decide), (show (0 : Int32).toInt ≤ ((999 * (0 % 7) + 0 : Nat) : Int) by decide)⟩, fun _ _ _ => rfl, fun _ _ => Or.inl rfl⟩, fun p hp => absurd hp (Nat.not_lt_zero p), fun _ _ _ _ => inR0 (by decide) (by decide), by decide, by decide, fun _ _ _ _ => rfl, fun _ _ _ _ => rfl⟩
  · exact ⟨Nat.zero_le _, Or.inl rfl, fun k hk => absurd hk (Nat.not_lt_zero k)⟩
  · exact ⟨Nat.zero_le _, rfl, fun k hk => absurd hk (Nat.not_lt_zero k)⟩
theorem sg0_c : cSt (mst mu0 0) 0 sg0 := by
  refine ⟨⟨rfl, by decide, rfl⟩, ⟨m1_off (by omega), m1_off (by omega), m1_off (by omega)⟩, ⟨fun i j _ => m1_off (by omega), fun i j _ => m1_off (by omega)⟩, ⟨?_, ?_, ?_, ?_, m1_off (by omega), m1_off (by omega), m1_off (by omega), m1_off (by omega)⟩, ?_, ?_, m1_off (by omega), ?_, ?_⟩
  · refine ⟨m1_off (by omega), m1_off (by omega), Nat.zero_le _, ⟨fun r _ => ⟨m1_off (by omega), m1_off (by omega), fun i _ hi => absurd hi (Nat.not_lt_zero i)⟩, Or.inl (m1_off (by omega)), fun _ => ?_⟩, m1_off (by omega), ⟨m1_off (by omega), m1_off (by omega), m1_off (by omega)⟩, fun p hp => absurd hp (Nat.not_lt_zero p)⟩
    exact fun r _ i _ hi => absurd hi (Nat.not_lt_zero i)
  · exact ⟨fun z hz => absurd hz (Nat.not_lt_zero z), fun k _ => m1_off (by omega), fun p _ => ⟨m1_off (by omega), m1_off (by omega)⟩⟩
  · exact fun z hz => absurd hz (Nat.not_lt_zero z)
  · exact fun p hp => absurd hp (Nat.not_lt_zero p)
  · exact ⟨fun k _ => m1_row (by omega), fun k _ => m1_row (by omega), m1_off (by omega), m1_off (by omega), rfl⟩
  · exact ⟨m1_off (by omega), m1_off (by omega), fun k hk => absurd hk (Nat.not_lt_zero k)⟩
  · exact ⟨m1_off (by omega), fun k hk => absurd hk (Nat.not_lt_zero k)⟩
  · exact ⟨m1_off (by omega), fun k hk => absurd hk (Nat.not_lt_zero k), m1_off (by omega), m1_off (by omega), fun z _ => m1_off (by omega)⟩
theorem m1_751 {z : Nat} (hz : z < 30) : (mst mu0 0).1 751 0 z = 0 := by
  show (if 0 = 0 ∧ 737 ≤ 751 ∧ 751 ≤ 739 ∧ z = 0 then (if (751 : Nat) = 739 then mu0.1 707 0 8 else 0) else if 0 = 0 ∧ 740 ≤ 751 ∧ 751 ≤ 750 ∧ 5 * 0 ≤ z ∧ z < 5 * 0 + 5 then stV mu0 751 (z - 5 * 0) else if 0 = 0 ∧ 751 = 751 ∧ 30 * 0 ≤ z ∧ z < 30 * 0 + 30 then mu0.1 716 0 (z - 30 * 0) else mu0.1 751 0 z) = 0
  rw [if_neg (by omega), if_neg (by omega), if_pos (by omega)]
  rfl
theorem sg0_m : mSt (mst mu0 0) sg0 := by
  refine ⟨⟨m1_off (by omega), m1_off (by omega)⟩, ⟨?_, ?_, ?_, ?_, m1_off (by omega), m1_off (by omega), m1_off (by omega), m1_off (by omega)⟩, ?_, ?_, m1_off (by omega), ?_, ?_⟩
  · refine ⟨m1_off (by omega), m1_off (by omega), Nat.zero_le _, fun r _ => ⟨m1_off (by omega), m1_off (by omega), fun i _ hi => absurd hi (Nat.not_lt_zero i)⟩, m1_off (by omega), ⟨m1_off (by omega), m1_off (by omega), m1_off (by omega)⟩, fun p hp => absurd hp (Nat.not_lt_zero p)⟩
  · exact ⟨fun z hz => absurd hz (Nat.not_lt_zero z), fun k _ => m1_off (by omega), fun p hp => absurd hp (Nat.not_lt_zero p)⟩
  · exact fun z hz => absurd hz (Nat.not_lt_zero z)
  · exact fun p hp => absurd hp (Nat.not_lt_zero p)
  · exact ⟨fun k hk => absurd hk (Nat.not_lt_zero k), fun k _ j _ => m1_751 (by omega), rfl, rfl, rfl⟩
  · exact ⟨m1_off (by omega), m1_off (by omega), fun k hk => absurd hk (Nat.not_lt_zero k)⟩
  · exact ⟨m1_off (by omega), fun k hk => absurd hk (Nat.not_lt_zero k)⟩
  · exact ⟨m1_off (by omega), fun k hk => absurd hk (Nat.not_lt_zero k), m1_off (by omega), m1_off (by omega)⟩
theorem sg0_inv : invS (mst mu0 0) := ⟨0, sg0, sg0_c, sg0_m, sg0_ok⟩
