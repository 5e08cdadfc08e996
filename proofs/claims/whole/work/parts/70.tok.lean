/-! TOKENS as a pure function of the tape -/
abbrev spc (b : Nat) : Prop := b = 10 ∨ b = 32
abbrev ltr (b : Nat) : Prop := 97 ≤ b ∧ b ≤ 122
abbrev dgs (b : Nat) : Prop := 48 ≤ b ∧ b ≤ 57
/-- on while P holds -/
def runP (P : Nat → Prop) [DecidablePred P] (tb : Nat → Nat) (L : Nat) : Nat → Nat → Nat
  | 0, a => a
  | c + 1, a => if a < L ∧ P (tb a) then runP P tb L c (a + 1) else a
def runE (P : Nat → Prop) [DecidablePred P] (tb : Nat → Nat) (L a : Nat) : Nat := runP P tb L (L - a) a
theorem runP_le {P : Nat → Prop} [DecidablePred P] {tb : Nat → Nat} {L : Nat} : ∀ (c a : Nat), a ≤ runP P tb L c a ∧ runP P tb L c a ≤ a + c := by
  intro c
  induction c with
  | zero => intro a; exact ⟨Nat.le_refl _, Nat.le_refl _⟩
  | succ c ih =>
    intro a
    rw [runP]
    split
    · have := ih (a + 1); omega
    · omega
theorem runE_ge {P : Nat → Prop} [DecidablePred P] {tb : Nat → Nat} {L : Nat} (a : Nat) : a ≤ runE P tb L a := (runP_le _ a).1
theorem runE_le {P : Nat → Prop} [DecidablePred P] {tb : Nat → Nat} {L : Nat} {a : Nat} (h : a ≤ L) : runE P tb L a ≤ L := by
  have := (runP_le (P := P) (tb := tb) (L := L) (L - a) a).2
  unfold runE
  omega
theorem runP_in {P : Nat → Prop} [DecidablePred P] {tb : Nat → Nat} {L : Nat} : ∀ (c a : Nat), ∀ z, a ≤ z → z < runP P tb L c a → z < L ∧ P (tb z) := by
  intro c
  induction c with
  | zero => intro a z h1 h2; rw [runP] at h2; omega
  | succ c ih =>
    intro a z h1 h2
    rw [runP] at h2
    split at h2
    · rename_i h
      by_cases e : z = a
      · subst e; exact h
      · exact ih (a + 1) z (by omega) h2
    · omega
theorem runE_in {P : Nat → Prop} [DecidablePred P] {tb : Nat → Nat} {L : Nat} {a z : Nat} (h1 : a ≤ z) (h2 : z < runE P tb L a) : z < L ∧ P (tb z) := runP_in _ a z h1 h2
theorem runE_step {P : Nat → Prop} [DecidablePred P] {tb : Nat → Nat} {L : Nat} {a : Nat} (h : a < L ∧ P (tb a)) : runE P tb L a = runE P tb L (a + 1) := by
  unfold runE
  obtain ⟨c, hc⟩ : ∃ c, L - a = c + 1 := ⟨L - a - 1, by omega⟩
  rw [hc, runP, if_pos h, show L - (a + 1) = c by omega]
theorem runE_stop {P : Nat → Prop} [DecidablePred P] {tb : Nat → Nat} {L : Nat} {a : Nat} (h : ¬ (a < L ∧ P (tb a))) : runE P tb L a = a := by
  unfold runE
  cases hc : L - a with
  | zero => rfl
  | succ c => rw [runP, if_neg h]
/-- the first n letters of the word from p on to e, five bits each -/
def wv (tb : Nat → Nat) (p e : Nat) : Nat → Nat
  | 0 => 0
  | n + 1 => wv tb p e n * 32 + (if p + n < e then tb (p + n) - 96 else 0)
def numC (tb : Nat → Nat) : Nat → Nat → Nat → Nat
  | 0, _, x => x
  | c + 1, a, x => numC tb c (a + 1) (min 1000000 (x * 10 + (tb a - 48)))
def numM (tb : Nat → Nat) : Nat → Nat → Nat → Nat
  | 0, _, x => x
  | c + 1, a, x => numM tb c (a + 1) (if 99999 < x then x else 10 * x + (tb a - 48))
/-- one number by both ways of capping -/
def numR (c m : Nat) : Prop := (c = m ∧ c ≤ 99999) ∨ (99999 < c ∧ 99999 < m ∧ c ≤ 1000000 ∧ m ≤ 999999)
theorem num_R {tb : Nat → Nat} : ∀ (c a x y : Nat), (∀ z, a ≤ z → z < a + c → dgs (tb z)) → numR x y → numR (numC tb c a x) (numM tb c a y) := by
  intro c
  induction c with
  | zero => intro a x y _ h; exact h
  | succ c ih =>
    intro a x y hd h
    have h0 := hd a (Nat.le_refl a) (by omega)
    rw [numC, numM]
    refine ih (a + 1) _ _ (fun z h1 h2 => hd z (by omega) (by omega)) ?_
    unfold numR at h ⊢
    have h0' : 48 ≤ tb a ∧ tb a ≤ 57 := h0
    rcases h with ⟨rfl, h⟩ | h
    · rw [if_neg (by omega)]
      have : min 1000000 (x * 10 + (tb a - 48)) = 10 * x + (tb a - 48) := by omega
      rw [this]
      omega
    · rw [if_pos h.2.1]
      omega
/-- next byte, or none -/
def nxB (tb : Nat → Nat) (L a : Nat) : Nat := if a < L then tb a else 999
def sgK (b nx : Nat) : Int32 := if b = 60 then (if nx = 61 then 22 else if nx = 62 then 24 else 21) else if b = 62 then (if nx = 61 then 25 else 26) else if b = 61 then 23 else if b = 43 then 27 else if b = 45 then 28 else if b = 42 then 29 else if b = 47 then 30 else if b = 40 then 31 else if b = 41 then 32 else if b = 59 then 33 else 37
def sgL (b nx : Nat) : Nat := if b = 60 ∧ (nx = 61 ∨ nx = 62) ∨ b = 62 ∧ nx = 61 then 2 else 1
/-- the class's kinds of signs as the reference has them -/
def sgV (k : Int32) : Int32 := if k = 33 then 59 else if k = 31 then 40 else if k = 32 then 41 else sgk k
/-- place, next place, kind, value of the class, value of the reference -/
noncomputable def tkP (tb : Nat → Nat) (L a : Nat) : Nat := runE spc tb L a
noncomputable def tkW (lg : Nat → Int32) (tb : Nat → Nat) (p e : Nat) : Int32 := if 6 < e - p then -1 else fndL lg (nI (wv tb p e 6)) 21 0
noncomputable def tkF (lg : Nat → Int32) (tb : Nat → Nat) (L p : Nat) : Nat × Int32 × Int32 × Int32 :=
  if ¬ p < L then (p, 36, 0, 0) else
  if ltr (tb p) then (runE ltr tb L p, (if 6 < runE ltr tb L p - p then 37 else if tkW lg tb p (runE ltr tb L p) = -1 then 35 else tkW lg tb p (runE ltr tb L p)), nI (wv tb p (runE ltr tb L p) 6), (if tkW lg tb p (runE ltr tb L p) = -1 then (if 6 < runE ltr tb L p - p then -1 else nI (wv tb p (runE ltr tb L p) 6)) else tkW lg tb p (runE ltr tb L p))) else
  if dgs (tb p) then (runE dgs tb L p, 34, nI (numC tb (runE dgs tb L p - p) p 0), nI (numM tb (runE dgs tb L p - p) p 0)) else
  (p + sgL (tb p) (nxB tb L (p + 1)), sgK (tb p) (nxB tb L (p + 1)), 0, sgV (sgK (tb p) (nxB tb L (p + 1))))
/-- the reference's sort -/
def sortK (k : Int32) : Int32 := if k = 36 then 4 else if k = 37 then 5 else if k = 35 then 1 else if k = 34 then 2 else if k < 21 then 0 else 3
/-- bytes as the class has them -/
def sb (b : Nat) : Int32 := (nI b).toInt8.toInt32
theorem sb_all : ∀ b, b < 256 → (sb b).toInt = if b < 128 then (b : Int) else (b : Int) - 256 := by
  intro b hb
  have : ∀ b : Fin 256, (sb b.val).toInt = if b.val < 128 then (b.val : Int) else (b.val : Int) - 256 := by decide +kernel
  exact this ⟨b, hb⟩
theorem sb_eq {b c : Nat} (hb : b < 256) (hc : c < 128) : sb b = nI c ↔ b = c := by
  rw [← Int32.toInt_inj, sb_all b hb, nI_toInt (by omega)]
  split <;> omega
theorem sb_n {b : Nat} (hb : b < 128) : sb b = nI b := (sb_eq (by omega) hb).mpr rfl
theorem sb_iw {b lo hi : Nat} (hb : b < 256) (hl : lo < 128) (h1 : 0 < lo) (hh : hi < 128) : iw (sb b) (nI lo) (nI hi) = 0 ↔ ¬ (lo ≤ b ∧ b ≤ hi) := by
  rw [iw_in]
  unfold inR
  rw [sb_all b hb, nI_toInt (by omega), nI_toInt (by omega)]
  split <;> omega
theorem nI_iw {b lo hi : Nat} (hb : b < 2 ^ 31) (hl : lo < 2 ^ 31) (hh : hi < 2 ^ 31) : iw (nI b) (nI lo) (nI hi) = 0 ↔ ¬ (lo ≤ b ∧ b ≤ hi) := by
  rw [iw_in]
  unfold inR
  rw [nI_toInt hb, nI_toInt hl, nI_toInt hh]
  omega
