/-! World.passDay -/
theorem day_mod {a b : Nat} (ha : a < 2 ^ 31) (hb : 0 < b) (hb2 : b < 2 ^ 31) : (nI a - nI a / nI b * nI b = 0) ↔ a % b = 0 := by
  rw [pk_rem ha hb hb2]
  have h1 : a % b < 2 ^ 31 := Nat.lt_trans (Nat.mod_lt _ hb) hb2
  have e0 : (0 : Int32) = nI 0 := rfl
  rw [e0, nI_eq h1 (by decide)]
/-- the persons behind a day -/
noncomputable def dayR (prs : Nat → Prop) [DecidablePred prs] (f : Nat → (Nat → Nat → Int32) → Nat → Int32) (men : Nat) (gone pot : Int32) (due : Prop) [Decidable due] (S : Nat → Nat → Int32) : Nat → Nat → Int32 := if due then potF men gone pot (dayF prs f men 0 S) else dayF prs f men 0 S
section CW2
variable {l : Launch} {D : gD} {d : Nat} {μ : gMem} {c : Nat → Int32 × Int32} {fr to : Nat → Nat}
theorem dayF_out {prs : Nat → Prop} [DecidablePred prs] {f : Nat → (Nat → Nat → Int32) → Nat → Int32} : ∀ (n i : Nat) (S : Nat → Nat → Int32) (k : Nat), i + n ≤ k → dayF prs f n i S k = S k := by
  intro n
  induction n with
  | zero => intro i S k _; rfl
  | succ n ih =>
    intro i S k hk
    simp only [dayF]
    rw [ih (i + 1) _ k (by omega)]
    split
    · show (if k = i then f i S else S k) = S k
      rw [if_neg (by omega)]
    · rfl
set_option maxHeartbeats 4000000 in
theorem c_X8_passDay {t w men n B dy bd : Nat} {wet : Int32} {S : Nat → Nat → Int32} (prs : Nat → Prop) [DecidablePred prs] (hd : 5 ≤ d) (hw : w < 3) (ht : t < 2) (hm : μ.1 7 t 0 = nI men) (hm5 : men ≤ 5) (hn : μ.1 7 t 5 = nI n) (hn6 : n ≤ 6) (hO : lwOk c fr to) (hL : LawC μ t c fr to) (hB : B ≤ 1000000) (hdy : μ.1 8 w 1 = nI dy) (hdy2 : dy < 100000) (hbd : μ.1 7 t 13 = nI bd) (hbd1 : 0 < bd) (hbd2 : bd ≤ 14) (hpc : ∀ p, p < men → 0 ≤ (psum (μ.1 520 t) (μ.1 331 (5 * w + p)) n).toInt ∧ (psum (μ.1 520 t) (μ.1 331 (5 * w + p)) n).toInt ≤ 2000)
    (hprs : ∀ p, p < men → (prs p ↔ ¬ nI p = μ.1 8 w 5 ∧ (μ.1 8 w 6 = -1 ∨ μ.1 8 w 6 = nI p))) (hr : ∀ k, k < 5 → μ.1 4 (5 * w + k) = S k) (hS : sOk men B S) :
    Ctr l D d yX8_passDay cX8_passDay 4 none [.ref (D.2.2 8 w), .ref (D.2.2 7 t), .int wet] μ (pV (fun μ' => wFr t w μ μ' ∧ μ'.1 8 w 1 = nI (dy + 1) ∧ μ'.1 8 w 2 = (if wet = 0 then μ.1 8 w 2 else μ.1 8 w 2 + 1) ∧
      μ'.1 8 w 4 = (if (dy + 1) % bd = 0 then onI (ldF (fun z => dayF prs (stF c fr to men (μ.1 8 w 5) (nI dy) (μ.1 7 t 14) (μ.1 7 t 15) (μ.1 8 w 7) wet (fun p => psum (μ.1 519 t) (μ.1 331 (5 * w + p)) n) (fun p => psum (μ.1 520 t) (μ.1 331 (5 * w + p)) n) (fun p => μ.1 516 t p)) men 0 S z 4) (μ.1 8 w 5) men 0 none) else μ.1 8 w 4) ∧
      ∀ k, k < 5 → μ'.1 4 (5 * w + k) = dayR prs (stF c fr to men (μ.1 8 w 5) (nI dy) (μ.1 7 t 14) (μ.1 7 t 15) (μ.1 8 w 7) wet (fun p => psum (μ.1 519 t) (μ.1 331 (5 * w + p)) n) (fun p => psum (μ.1 520 t) (μ.1 331 (5 * w + p)) n) (fun p => μ.1 516 t p)) men (μ.1 8 w 5) (μ.1 7 t 12) ((dy + 1) % bd = 0) S k)) := by
  refine en_X8_passDay (fun Γ => bl_X8_passDay_0 hw ht ?_)
  rintro _ rfl
  obtain ⟨F, eF⟩ : ∃ F, F = dayF prs (stF c fr to men (μ.1 8 w 5) (nI dy) (μ.1 7 t 14) (μ.1 7 t 15) (μ.1 8 w 7) wet (fun p => psum (μ.1 519 t) (μ.1 331 (5 * w + p)) n) (fun p => psum (μ.1 520 t) (μ.1 331 (5 * w + p)) n) (fun p => μ.1 516 t p)) men 0 S := ⟨_, rfl⟩
  have eR : ∀ k, dayR prs (stF c fr to men (μ.1 8 w 5) (nI dy) (μ.1 7 t 14) (μ.1 7 t 15) (μ.1 8 w 7) wet (fun p => psum (μ.1 519 t) (μ.1 331 (5 * w + p)) n) (fun p => psum (μ.1 520 t) (μ.1 331 (5 * w + p)) n) (fun p => μ.1 516 t p)) men (μ.1 8 w 5) (μ.1 7 t 12) ((dy + 1) % bd = 0) S k = (if (dy + 1) % bd = 0 then potF men (μ.1 8 w 5) (μ.1 7 t 12) F else F) k := by
    intro k
    rw [dayR, ← eF]
  simp only [eR]
  rw [← eF]
  refine passDay_loop (F := F) (by omega) hw ht hm hm5 hn hn6 hO hL hB rfl rfl hdy hpc hprs ?_ men 0 μ S (by omega) wFr.rf rfl hr hS.1 (fun k hk => ⟨(hS.2.1 k hk).1, by have := (hS.2.1 k hk).2; omega, fun _ => (hS.2.1 k hk).2⟩) hS.2.2 (fun k hk => by rw [eF])
  intro μ1 hF1 h81 hr1
  have hz : ∀ k, men ≤ k → k < 5 → F k 4 = 0 := by
    intro k h1 h2
    rw [eF, dayF_out men 0 S k (by omega)]
    exact hS.2.2 k h1 h2
  have g7 := hF1.1 7 t (by omega) (by omega)
  refine bl_X8_passDay_1 hw ht ⟨fun _ => ?_, fun h => ?_⟩
  · rintro μ2 hμ2
    rw [h81, hdy, nI_1] at hμ2
    have hF2 : wFr t w μ μ2 := by rw [hμ2]; exact hF1.own 1 (by omega) _
    have h82 : μ2.1 8 w = fun j => if j = 1 then nI (dy + 1) else μ.1 8 w j := by rw [hμ2, gsI_row, h81]
    have hr2 : ∀ k, k < 5 → μ2.1 4 (5 * w + k) = F k := fun k hk => by rw [hμ2, gsI_off (by omega)]; exact hr1 k hk
    -- the pot
    have pot : ∀ μ3 : gMem, wFr t w μ μ3 → (μ3.1 8 w = fun j => if j = 2 then (if wet = 0 then μ.1 8 w 2 else μ.1 8 w 2 + 1) else if j = 1 then nI (dy + 1) else μ.1 8 w j) → (∀ k, k < 5 → μ3.1 4 (5 * w + k) = F k) → pt_X8_passDay_4 l D d (fun μ' => wFr t w μ μ' ∧ μ'.1 8 w 1 = nI (dy + 1) ∧ μ'.1 8 w 2 = (if wet = 0 then μ.1 8 w 2 else μ.1 8 w 2 + 1) ∧ μ'.1 8 w 4 = (if (dy + 1) % bd = 0 then onI (ldF (fun z => F z 4) (μ.1 8 w 5) men 0 none) else μ.1 8 w 4) ∧ ∀ k, k < 5 → μ'.1 4 (5 * w + k) = (if (dy + 1) % bd = 0 then potF men (μ.1 8 w 5) (μ.1 7 t 12) F else F) k) Γ w t μ3 := by
      intro μ3 hF3 h83 hr3
      have g73 := hF3.1 7 t (by omega) (by omega)
      have e1 : μ3.1 8 w 1 = nI (dy + 1) := by rw [h83]; rfl
      have e5 : μ3.1 8 w 5 = μ.1 8 w 5 := by rw [h83]; rfl
      refine bl_X8_passDay_4 hw ht ?_
      rw [g73, hbd, e1]
      refine ⟨fun h => absurd h (nI_nle hbd1 (by omega)), fun _ => ⟨nI_ne0 hbd1 (by omega), fun h => ?_, fun h => ⟨1, _, by omega, c_X8_givePot (S := F) (Nat.le_refl 1) hw ht (by rw [g73]; exact hm) hm5 hz hr3, ?_⟩⟩⟩
      · rw [day_mod (by omega) hbd1 (by omega)] at h
        refine ⟨hF3, rfl, by rw [h83]; rfl, by rw [if_neg h, h83]; rfl, fun k hk => by rw [if_neg h]; exact hr3 k hk⟩
      · rw [day_mod (by omega) hbd1 (by omega)] at h
        rintro μ4 ⟨hF4, h84, hr4⟩
        rw [e5, g73] at hr4
        refine ⟨hF3.tr hF4, ?_, ?_, ?_, fun k hk => by rw [if_pos h]; exact hr4 k hk⟩
        · rw [h84]; exact e1
        · rw [h84, h83]; rfl
        · rw [if_pos h, h84, e5]; rfl
    refine ⟨fun h => pot μ2 hF2 ?_ hr2, fun h => ?_⟩
    · rw [h82]
      funext j
      by_cases j2 : j = 2
      · subst j2; simp [h]
      · simp [j2]
    · rintro μ3 hμ3
      refine pot μ3 (by rw [hμ3]; exact hF2.own 2 (by omega) _) ?_ (fun k hk => by rw [hμ3, gsI_off (by omega)]; exact hr2 k hk)
      rw [hμ3, gsI_row, h82]
      funext j
      by_cases j2 : j = 2
      · subst j2; simp [h]
      · simp [j2]
  · rw [g7, hm] at h
    exact absurd (nI_le (Nat.le_refl _) (by omega)) h
end CW2
