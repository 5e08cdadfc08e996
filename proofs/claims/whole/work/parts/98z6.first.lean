/-! THE FIRST MEMORY, and where its cells lie behind the constructors -/
def dOf (D : gD) (c m : Nat) (a9 a10 : Nat → Nat) : gD := (D.1, D.2.1, fun k i => match k with
  | 0 => a9 85
  | 1 => a9 4
  | 2 => a9 (18 + 17 * i)
  | 3 => a9 78
  | 4 => a9 (44 + 12 * (i / 5) + 2 * (i % 5))
  | 5 => a9 3
  | 6 => a9 0
  | 7 => a9 (8 + 17 * i)
  | 8 => a9 (42 + 12 * i)
  | 9 => c
  | 10 => m
  | 64 => a9 86
  | 65 => a9 87
  | 66 => a9 88
  | 67 => a9 89
  | 128 => a9 5
  | 130 => a9 6
  | 192 => a9 (19 + 17 * i)
  | 193 => a9 (20 + 17 * i)
  | 194 => a9 (21 + 17 * i)
  | 195 => a9 (22 + 17 * i)
  | 196 => a9 (23 + 17 * i)
  | 197 => a9 (24 + 17 * i)
  | 256 => a9 79
  | 257 => a9 80
  | 258 => a9 81
  | 259 => a9 82
  | 260 => a9 83
  | 261 => a9 84
  | 331 => a9 (45 + 12 * (i / 5) + 2 * (i % 5))
  | 386 => a9 7
  | 448 => a9 1
  | 449 => a9 2
  | 513 => a9 (9 + 17 * i)
  | 514 => a9 (10 + 17 * i)
  | 515 => a9 (11 + 17 * i)
  | 516 => a9 (12 + 17 * i)
  | 518 => a9 (13 + 17 * i)
  | 519 => a9 (14 + 17 * i)
  | 520 => a9 (15 + 17 * i)
  | 521 => a9 (16 + 17 * i)
  | 523 => a9 (17 + 17 * i)
  | 576 => a9 (43 + 12 * i)
  | 649 => a9 90
  | 650 => a9 91
  | 705 => a10 0
  | 707 => a10 1
  | 708 => a10 2
  | 709 => a10 3
  | 710 => a10 4
  | 711 => a10 5
  | 712 => a10 6
  | 713 => a10 7
  | 714 => a10 8
  | 715 => a10 9
  | 716 => a10 10
  | 717 => a10 11
  | 718 => a10 12
  | 719 => a10 13
  | 720 => a10 14
  | 734 => a10 15
  | 735 => a10 16
  | 737 => a10 17
  | 738 => a10 18
  | 739 => a10 19
  | 740 => a10 20
  | 741 => a10 21
  | 742 => a10 22
  | 743 => a10 23
  | 744 => a10 24
  | 745 => a10 25
  | 746 => a10 26
  | 747 => a10 27
  | 748 => a10 28
  | 749 => a10 29
  | 750 => a10 30
  | 751 => a10 31
  | 757 => a10 32
  | 758 => a10 33
  | 761 => a10 34
  | 762 => a10 35
  | 763 => a10 36
  | 764 => a10 37
  | 765 => a10 38
  | 766 => a10 39
  | _ => D.2.2 k i)
def mu0 : gMem := (fun k _ j => match k with
  | 3 => (match j with | 7 => -1 | _ => 0)
  | 5 => (match j with | 6 => -1 | _ => 0)
  | 7 => (match j with | 13 => 7 | _ => 0)
  | 8 => (match j with | 4 => -1 | 5 => -1 | 6 => -1 | _ => 0)
  | 10 => (match j with | 27 => -1 | 52 => -1 | 56 => -1 | _ => 0)
  | 449 => lgW j
  | 707 => nu10 j
  | _ => 0, fun _ _ _ => 0, fun q => match q with | 1 => 1 | 2 => 2 | _ => 0)
def fl9 (D : gD) (c : Nat) (a9 : Nat → Nat) : va_W := [(c, .inr (9, [.ref (a9 0), .ref (a9 3), .ref (a9 8), .ref (a9 25), .ref (a9 42), .ref (a9 54), .ref (a9 66), .ref (a9 78), .ref (a9 85), .ref (a9 90), .ref (a9 91), .int (0)])), (a9 0, .inr (6, [.ref (a9 1), .ref (a9 2), .int 0, .int 0, .int 0, .int 0, .int 0, .int 0])), (a9 1, .inl (D.2.1 2, (700, .inl (fun _ => 0)))), (a9 2, .inl (D.2.1 1, (21, .inl lgW))), (a9 3, .inr (5, [.ref (a9 0), .ref (a9 4), .ref (a9 7), .null, .int 0, .int (0), .int (-1)])), (a9 4, .inr (1, [.ref (a9 5), .int 0, .ref (a9 6), .int 0, .int 0, .int 0])), (a9 5, .inl (D.2.1 1, (72, .inl (fun _ => 0)))), (a9 6, .inl (D.2.1 3, (9, .inl (fun _ => 0)))), (a9 7, .inl (D.2.1 3, (4, .inl (fun _ => 0)))), (a9 8, .inr (7, [.int 0, .ref (a9 9), .ref (a9 10), .ref (a9 11), .ref (a9 12), .int 0, .ref (a9 13), .ref (a9 14), .ref (a9 15), .ref (a9 16), .int 0, .ref (a9 17), .int (0), .int (7), .int 0, .int 0, .int 0, .int 0, .ref (a9 18)])), (a9 9, .inl (D.2.1 1, (5, .inl (fun _ => 0)))), (a9 10, .inl (D.2.1 1, (5, .inl (fun _ => 0)))), (a9 11, .inl (D.2.1 1, (5, .inl (fun _ => 0)))), (a9 12, .inl (D.2.1 1, (5, .inl (fun _ => 0)))), (a9 13, .inl (D.2.1 1, (6, .inl (fun _ => 0)))), (a9 14, .inl (D.2.1 1, (6, .inl (fun _ => 0)))), (a9 15, .inl (D.2.1 1, (6, .inl (fun _ => 0)))), (a9 16, .inl (D.2.1 1, (6, .inl (fun _ => 0)))), (a9 17, .inl (D.2.1 1, (30, .inl (fun _ => 0)))), (a9 18, .inr (2, [.ref (a9 19), .ref (a9 20), .ref (a9 21), .ref (a9 22), .ref (a9 23), .ref (a9 24), .int 0, .int 0, .int 0, .long 0])), (a9 19, .inl (D.2.1 1, (64, .inl (fun _ => 0)))), (a9 20, .inl (D.2.1 1, (64, .inl (fun _ => 0)))), (a9 21, .inl (D.2.1 1, (3, .inl (fun _ => 0)))), (a9 22, .inl (D.2.1 1, (3, .inl (fun _ => 0)))), (a9 23, .inl (D.2.1 4, (64, .inr (.inl (fun _ => 0))))), (a9 24, .inl (D.2.1 4, (7, .inr (.inl (fun _ => 0))))), (a9 25, .inr (7, [.int 0, .ref (a9 26), .ref (a9 27), .ref (a9 28), .ref (a9 29), .int 0, .ref (a9 30), .ref (a9 31), .ref (a9 32), .ref (a9 33), .int 0, .ref (a9 34), .int (0), .int (7), .int 0, .int 0, .int 0, .int 0, .ref (a9 35)])), (a9 26, .inl (D.2.1 1, (5, .inl (fun _ => 0)))), (a9 27, .inl (D.2.1 1, (5, .inl (fun _ => 0)))), (a9 28, .inl (D.2.1 1, (5, .inl (fun _ => 0)))), (a9 29, .inl (D.2.1 1, (5, .inl (fun _ => 0)))), (a9 30, .inl (D.2.1 1, (6, .inl (fun _ => 0)))), (a9 31, .inl (D.2.1 1, (6, .inl (fun _ => 0)))), (a9 32, .inl (D.2.1 1, (6, .inl (fun _ => 0)))), (a9 33, .inl (D.2.1 1, (6, .inl (fun _ => 0)))), (a9 34, .inl (D.2.1 1, (30, .inl (fun _ => 0)))), (a9 35, .inr (2, [.ref (a9 36), .ref (a9 37), .ref (a9 38), .ref (a9 39), .ref (a9 40), .ref (a9 41), .int 0, .int 0, .int 0, .long 0])), (a9 36, .inl (D.2.1 1, (64, .inl (fun _ => 0)))), (a9 37, .inl (D.2.1 1, (64, .inl (fun _ => 0)))), (a9 38, .inl (D.2.1 1, (3, .inl (fun _ => 0)))), (a9 39, .inl (D.2.1 1, (3, .inl (fun _ => 0)))), (a9 40, .inl (D.2.1 4, (64, .inr (.inl (fun _ => 0))))), (a9 41, .inl (D.2.1 4, (7, .inr (.inl (fun _ => 0))))), (a9 42, .inr (8, [.ref (a9 43), .int 0, .int 0, .long 0, .int (-1), .int (-1), .int (-1), .int 0])), (a9 43, .inl (D.2.1 5, 5, .inr (.inr (.inr (.inr (va_up (va_up (va_up (va_up (va_up (fun _ => none) (0 : Int32).toNatClampNeg (some (a9 44))) (1 : Int32).toNatClampNeg (some (a9 46))) (2 : Int32).toNatClampNeg (some (a9 48))) (3 : Int32).toNatClampNeg (some (a9 50))) (4 : Int32).toNatClampNeg (some (a9 52)))))))), (a9 44, .inr (4, [.int 0, .int 0, .int 0, .int 0, .int 0, .int 0, .int 0, .int 0, .int 0, .int 0, .int 0, .ref (a9 45)])), (a9 45, .inl (D.2.1 1, (6, .inl (fun _ => 0)))), (a9 46, .inr (4, [.int 0, .int 0, .int 0, .int 0, .int 0, .int 0, .int 0, .int 0, .int 0, .int 0, .int 0, .ref (a9 47)])), (a9 47, .inl (D.2.1 1, (6, .inl (fun _ => 0)))), (a9 48, .inr (4, [.int 0, .int 0, .int 0, .int 0, .int 0, .int 0, .int 0, .int 0, .int 0, .int 0, .int 0, .ref (a9 49)])), (a9 49, .inl (D.2.1 1, (6, .inl (fun _ => 0)))), (a9 50, .inr (4, [.int 0, .int 0, .int 0, .int 0, .int 0, .int 0, .int 0, .int 0, .int 0, .int 0, .int 0, .ref (a9 51)])), (a9 51, .inl (D.2.1 1, (6, .inl (fun _ => 0)))), (a9 52, .inr (4, [.int 0, .int 0, .int 0, .int 0, .int 0, .int 0, .int 0, .int 0, .int 0, .int 0, .int 0, .ref (a9 53)])), (a9 53, .inl (D.2.1 1, (6, .inl (fun _ => 0)))), (a9 54, .inr (8, [.ref (a9 55), .int 0, .int 0, .long 0, .int (-1), .int (-1), .int (-1), .int 0])), (a9 55, .inl (D.2.1 5, 5, .inr (.inr (.inr (.inr (va_up (va_up (va_up (va_up (va_up (fun _ => none) (0 : Int32).toNatClampNeg (some (a9 56))) (1 : Int32).toNatClampNeg (some (a9 58))) (2 : Int32).toNatClampNeg (some (a9 60))) (3 : Int32).toNatClampNeg (some (a9 62))) (4 : Int32).toNatClampNeg (some (a9 64)))))))), (a9 56, .inr (4, [.int 0, .int 0, .int 0, .int 0, .int 0, .int 0, .int 0, .int 0, .int 0, .int 0, .int 0, .ref (a9 57)])), (a9 57, .inl (D.2.1 1, (6, .inl (fun _ => 0)))), (a9 58, .inr (4, [.int 0, .int 0, .int 0, .int 0, .int 0, .int 0, .int 0, .int 0, .int 0, .int 0, .int 0, .ref (a9 59)])), (a9 59, .inl (D.2.1 1, (6, .inl (fun _ => 0)))), (a9 60, .inr (4, [.int 0, .int 0, .int 0, .int 0, .int 0, .int 0, .int 0, .int 0, .int 0, .int 0, .int 0, .ref (a9 61)])), (a9 61, .inl (D.2.1 1, (6, .inl (fun _ => 0)))), (a9 62, .inr (4, [.int 0, .int 0, .int 0, .int 0, .int 0, .int 0, .int 0, .int 0, .int 0, .int 0, .int 0, .ref (a9 63)])), (a9 63, .inl (D.2.1 1, (6, .inl (fun _ => 0)))), (a9 64, .inr (4, [.int 0, .int 0, .int 0, .int 0, .int 0, .int 0, .int 0, .int 0, .int 0, .int 0, .int 0, .ref (a9 65)])), (a9 65, .inl (D.2.1 1, (6, .inl (fun _ => 0)))), (a9 66, .inr (8, [.ref (a9 67), .int 0, .int 0, .long 0, .int (-1), .int (-1), .int (-1), .int 0])), (a9 67, .inl (D.2.1 5, 5, .inr (.inr (.inr (.inr (va_up (va_up (va_up (va_up (va_up (fun _ => none) (0 : Int32).toNatClampNeg (some (a9 68))) (1 : Int32).toNatClampNeg (some (a9 70))) (2 : Int32).toNatClampNeg (some (a9 72))) (3 : Int32).toNatClampNeg (some (a9 74))) (4 : Int32).toNatClampNeg (some (a9 76)))))))), (a9 68, .inr (4, [.int 0, .int 0, .int 0, .int 0, .int 0, .int 0, .int 0, .int 0, .int 0, .int 0, .int 0, .ref (a9 69)])), (a9 69, .inl (D.2.1 1, (6, .inl (fun _ => 0)))), (a9 70, .inr (4, [.int 0, .int 0, .int 0, .int 0, .int 0, .int 0, .int 0, .int 0, .int 0, .int 0, .int 0, .ref (a9 71)])), (a9 71, .inl (D.2.1 1, (6, .inl (fun _ => 0)))), (a9 72, .inr (4, [.int 0, .int 0, .int 0, .int 0, .int 0, .int 0, .int 0, .int 0, .int 0, .int 0, .int 0, .ref (a9 73)])), (a9 73, .inl (D.2.1 1, (6, .inl (fun _ => 0)))), (a9 74, .inr (4, [.int 0, .int 0, .int 0, .int 0, .int 0, .int 0, .int 0, .int 0, .int 0, .int 0, .int 0, .ref (a9 75)])), (a9 75, .inl (D.2.1 1, (6, .inl (fun _ => 0)))), (a9 76, .inr (4, [.int 0, .int 0, .int 0, .int 0, .int 0, .int 0, .int 0, .int 0, .int 0, .int 0, .int 0, .ref (a9 77)])), (a9 77, .inl (D.2.1 1, (6, .inl (fun _ => 0)))), (a9 78, .inr (3, [.ref (a9 79), .ref (a9 80), .ref (a9 81), .ref (a9 82), .ref (a9 83), .ref (a9 84), .int 0, .int (-1)])), (a9 79, .inl (D.2.1 1, (24, .inl (fun _ => 0)))), (a9 80, .inl (D.2.1 1, (24, .inl (fun _ => 0)))), (a9 81, .inl (D.2.1 1, (24, .inl (fun _ => 0)))), (a9 82, .inl (D.2.1 3, (24, .inl (fun _ => 0)))), (a9 83, .inl (D.2.1 1, (24, .inl (fun _ => 0)))), (a9 84, .inl (D.2.1 3, (24, .inl (fun _ => 0)))), (a9 85, .inr (0, [.ref (a9 86), .ref (a9 87), .ref (a9 88), .ref (a9 89), .int 0])), (a9 86, .inl (D.2.1 1, (20, .inl (fun _ => 0)))), (a9 87, .inl (D.2.1 1, (20, .inl (fun _ => 0)))), (a9 88, .inl (D.2.1 1, (20, .inl (fun _ => 0)))), (a9 89, .inl (D.2.1 1, (20, .inl (fun _ => 0)))), (a9 90, .inl (D.2.1 1, (25, .inl (fun _ => 0)))), (a9 91, .inl (D.2.1 1, (5, .inl (fun _ => 0))))]
set_option maxRecDepth 20000 in
set_option maxHeartbeats 4000000 in
theorem fl9_eq (D : gD) (c : Nat) (a9 : Nat → Nat) : mkX9 D c a9 = fl9 D c a9 := rfl
theorem fl9_len (D : gD) (c : Nat) (a9 : Nat → Nat) : (fl9 D c a9).length = 93 := rfl
def okcel (D' : gD) (μ : gMem) (ws : va_W) (y : (Nat × Nat) × Nat) : Prop := ∃ e9 : va_E, ws[y.2]? = some (D'.2.2 y.1.1 y.1.2, e9) ∧ ∀ H : Heap, va_at D'.1 vwCl (D'.2.2 y.1.1 y.1.2, e9) H → va_at D'.1 vwCl (D'.2.2 y.1.1 y.1.2, gE D' μ.2.2 (μ.1 y.1.1 y.1.2) (μ.2.1 y.1.1 y.1.2) y.1.1 y.1.2) H
theorem at_hi9 {x y : Nat × va_E} {wC w9 : va_W} {n N : Nat} (hn : wC.length = N) (h : w9[n]? = some y) : (x :: (wC ++ w9))[n + N + 1]? = some y := by
  rw [List.getElem?_cons_succ, List.getElem?_append_right (by omega), show n + N - wC.length = n by omega]
  exact h
theorem at_lo9 {x y : Nat × va_E} {wC w9 : va_W} {n : Nat} (h : wC[n]? = some y) : (x :: (wC ++ w9))[n + 1]? = some y := by
  rw [List.getElem?_cons_succ, List.getElem?_append_left (List.getElem?_eq_some_iff.mp h).1]
  exact h
section CEL
variable {D : gD} {c m : Nat} {a9 a10 : Nat → Nat}
theorem okcel_lo {k i n : Nat} (h : (fl9 D c a9)[n]? = some ((dOf D c m a9 a10).2.2 k i, gE (dOf D c m a9 a10) mu0.2.2 (mu0.1 k i) (mu0.2.1 k i) k i)) : okcel (dOf D c m a9 a10) mu0 (mk10a D m (fl9 D c a9) a10) ((k, i), n + 1) := ⟨_, at_lo9 h, fun _ h => h⟩
theorem okcel_hi {k i n : Nat} (h : (w10a D a10)[n]? = some ((dOf D c m a9 a10).2.2 k i, gE (dOf D c m a9 a10) mu0.2.2 (mu0.1 k i) (mu0.2.1 k i) k i)) : okcel (dOf D c m a9 a10) mu0 (mk10a D m (fl9 D c a9) a10) ((k, i), n + 93 + 1) := ⟨_, at_hi9 (fl9_len D c a9) h, fun _ h => h⟩
theorem okcel_10 : okcel (dOf D c m a9 a10) mu0 (mk10a D m (fl9 D c a9) a10) ((10, 0), 0) := ⟨_, (rfl : (mk10a D m (fl9 D c a9) a10)[0]? = some ((dOf D c m a9 a10).2.2 10 0, gE (dOf D c m a9 a10) mu0.2.2 (mu0.1 10 0) (mu0.2.1 10 0) 10 0)), fun _ h => h⟩
theorem arrV_ext9 {cA : ClassId} {f g : Nat → Value} {n : Nat} (h : ∀ j, j < n → f j = g j) : arrV cA n f = arrV cA n g := by
  unfold arrV
  rw [show (fun j : Fin n => f j.val) = (fun j : Fin n => g j.val) from funext (fun j => h j.val j.isLt)]
theorem okcel_p0 : okcel (dOf D c m a9 a10) mu0 (mk10a D m (fl9 D c a9) a10) ((576, 0), 45) := by
  refine ⟨.inl (D.2.1 5, 5, .inr (.inr (.inr (.inr (va_up (va_up (va_up (va_up (va_up (fun _ => none) (0 : Int32).toNatClampNeg (some (a9 44))) (1 : Int32).toNatClampNeg (some (a9 46))) (2 : Int32).toNatClampNeg (some (a9 48))) (3 : Int32).toNatClampNeg (some (a9 50))) (4 : Int32).toNatClampNeg (some (a9 52))))))), at_lo9 (n := 44) rfl, fun H h => ?_⟩
  have h1 : H[(dOf D c m a9 a10).2.2 576 0]? = some (arrV (D.2.1 5) 5 (fun j => va_rf ((va_up (va_up (va_up (va_up (va_up (fun _ => none) (0 : Int32).toNatClampNeg (some (a9 44))) (1 : Int32).toNatClampNeg (some (a9 46))) (2 : Int32).toNatClampNeg (some (a9 48))) (3 : Int32).toNatClampNeg (some (a9 50))) (4 : Int32).toNatClampNeg (some (a9 52))) j))) := h
  show H[(dOf D c m a9 a10).2.2 576 0]? = some (arrV (D.2.1 5) 5 (fun j => va_rf (some ((dOf D c m a9 a10).2.2 4 (5 * 0 + j)))))
  rw [h1]
  refine congrArg some (arrV_ext9 (fun j hj => ?_))
  rcases (show j = 0 ∨ j = 1 ∨ j = 2 ∨ j = 3 ∨ j = 4 by omega) with rfl | rfl | rfl | rfl | rfl <;> rfl
theorem okcel_p1 : okcel (dOf D c m a9 a10) mu0 (mk10a D m (fl9 D c a9) a10) ((576, 1), 57) := by
  refine ⟨.inl (D.2.1 5, 5, .inr (.inr (.inr (.inr (va_up (va_up (va_up (va_up (va_up (fun _ => none) (0 : Int32).toNatClampNeg (some (a9 56))) (1 : Int32).toNatClampNeg (some (a9 58))) (2 : Int32).toNatClampNeg (some (a9 60))) (3 : Int32).toNatClampNeg (some (a9 62))) (4 : Int32).toNatClampNeg (some (a9 64))))))), at_lo9 (n := 56) rfl, fun H h => ?_⟩
  have h1 : H[(dOf D c m a9 a10).2.2 576 1]? = some (arrV (D.2.1 5) 5 (fun j => va_rf ((va_up (va_up (va_up (va_up (va_up (fun _ => none) (0 : Int32).toNatClampNeg (some (a9 56))) (1 : Int32).toNatClampNeg (some (a9 58))) (2 : Int32).toNatClampNeg (some (a9 60))) (3 : Int32).toNatClampNeg (some (a9 62))) (4 : Int32).toNatClampNeg (some (a9 64))) j))) := h
  show H[(dOf D c m a9 a10).2.2 576 1]? = some (arrV (D.2.1 5) 5 (fun j => va_rf (some ((dOf D c m a9 a10).2.2 4 (5 * 1 + j)))))
  rw [h1]
  refine congrArg some (arrV_ext9 (fun j hj => ?_))
  rcases (show j = 0 ∨ j = 1 ∨ j = 2 ∨ j = 3 ∨ j = 4 by omega) with rfl | rfl | rfl | rfl | rfl <;> rfl
theorem okcel_p2 : okcel (dOf D c m a9 a10) mu0 (mk10a D m (fl9 D c a9) a10) ((576, 2), 69) := by
  refine ⟨.inl (D.2.1 5, 5, .inr (.inr (.inr (.inr (va_up (va_up (va_up (va_up (va_up (fun _ => none) (0 : Int32).toNatClampNeg (some (a9 68))) (1 : Int32).toNatClampNeg (some (a9 70))) (2 : Int32).toNatClampNeg (some (a9 72))) (3 : Int32).toNatClampNeg (some (a9 74))) (4 : Int32).toNatClampNeg (some (a9 76))))))), at_lo9 (n := 68) rfl, fun H h => ?_⟩
  have h1 : H[(dOf D c m a9 a10).2.2 576 2]? = some (arrV (D.2.1 5) 5 (fun j => va_rf ((va_up (va_up (va_up (va_up (va_up (fun _ => none) (0 : Int32).toNatClampNeg (some (a9 68))) (1 : Int32).toNatClampNeg (some (a9 70))) (2 : Int32).toNatClampNeg (some (a9 72))) (3 : Int32).toNatClampNeg (some (a9 74))) (4 : Int32).toNatClampNeg (some (a9 76))) j))) := h
  show H[(dOf D c m a9 a10).2.2 576 2]? = some (arrV (D.2.1 5) 5 (fun j => va_rf (some ((dOf D c m a9 a10).2.2 4 (5 * 2 + j)))))
  rw [h1]
  refine congrArg some (arrV_ext9 (fun j hj => ?_))
  rcases (show j = 0 ∨ j = 1 ∨ j = 2 ∨ j = 3 ∨ j = 4 by omega) with rfl | rfl | rfl | rfl | rfl <;> rfl
def gzl0 : List ((Nat × Nat) × Nat) := [((0, 0), 87), ((1, 0), 6), ((2, 0), 20), ((2, 1), 37), ((3, 0), 80), ((4, 0), 46), ((4, 1), 48), ((4, 2), 50), ((4, 3), 52), ((4, 4), 54), ((4, 5), 58), ((4, 6), 60), ((4, 7), 62), ((4, 8), 64), ((4, 9), 66)]
set_option maxHeartbeats 4000000 in
theorem okcel_z0 : ∀ y ∈ gzl0, okcel (dOf D c m a9 a10) mu0 (mk10a D m (fl9 D c a9) a10) y := List.forall_mem_cons.mpr ⟨(okcel_lo (k := 0) (i := 0) (n := 86) rfl), List.forall_mem_cons.mpr ⟨(okcel_lo (k := 1) (i := 0) (n := 5) rfl), List.forall_mem_cons.mpr ⟨(okcel_lo (k := 2) (i := 0) (n := 19) rfl), List.forall_mem_cons.mpr ⟨(okcel_lo (k := 2) (i := 1) (n := 36) rfl), List.forall_mem_cons.mpr ⟨(okcel_lo (k := 3) (i := 0) (n := 79) rfl), List.forall_mem_cons.mpr ⟨(okcel_lo (k := 4) (i := 0) (n := 45) rfl), List.forall_mem_cons.mpr ⟨(okcel_lo (k := 4) (i := 1) (n := 47) rfl), List.forall_mem_cons.mpr ⟨(okcel_lo (k := 4) (i := 2) (n := 49) rfl), List.forall_mem_cons.mpr ⟨(okcel_lo (k := 4) (i := 3) (n := 51) rfl), List.forall_mem_cons.mpr ⟨(okcel_lo (k := 4) (i := 4) (n := 53) rfl), List.forall_mem_cons.mpr ⟨(okcel_lo (k := 4) (i := 5) (n := 57) rfl), List.forall_mem_cons.mpr ⟨(okcel_lo (k := 4) (i := 6) (n := 59) rfl), List.forall_mem_cons.mpr ⟨(okcel_lo (k := 4) (i := 7) (n := 61) rfl), List.forall_mem_cons.mpr ⟨(okcel_lo (k := 4) (i := 8) (n := 63) rfl), List.forall_mem_cons.mpr ⟨(okcel_lo (k := 4) (i := 9) (n := 65) rfl), fun _ h => absurd h List.not_mem_nil⟩⟩⟩⟩⟩⟩⟩⟩⟩⟩⟩⟩⟩⟩⟩
def gzl1 : List ((Nat × Nat) × Nat) := [((4, 10), 70), ((4, 11), 72), ((4, 12), 74), ((4, 13), 76), ((4, 14), 78), ((5, 0), 5), ((6, 0), 2), ((7, 0), 10), ((7, 1), 27), ((8, 0), 44), ((8, 1), 56), ((8, 2), 68), ((9, 0), 1), ((10, 0), 0), ((64, 0), 88)]
set_option maxHeartbeats 4000000 in
theorem okcel_z1 : ∀ y ∈ gzl1, okcel (dOf D c m a9 a10) mu0 (mk10a D m (fl9 D c a9) a10) y := List.forall_mem_cons.mpr ⟨(okcel_lo (k := 4) (i := 10) (n := 69) rfl), List.forall_mem_cons.mpr ⟨(okcel_lo (k := 4) (i := 11) (n := 71) rfl), List.forall_mem_cons.mpr ⟨(okcel_lo (k := 4) (i := 12) (n := 73) rfl), List.forall_mem_cons.mpr ⟨(okcel_lo (k := 4) (i := 13) (n := 75) rfl), List.forall_mem_cons.mpr ⟨(okcel_lo (k := 4) (i := 14) (n := 77) rfl), List.forall_mem_cons.mpr ⟨(okcel_lo (k := 5) (i := 0) (n := 4) rfl), List.forall_mem_cons.mpr ⟨(okcel_lo (k := 6) (i := 0) (n := 1) rfl), List.forall_mem_cons.mpr ⟨(okcel_lo (k := 7) (i := 0) (n := 9) rfl), List.forall_mem_cons.mpr ⟨(okcel_lo (k := 7) (i := 1) (n := 26) rfl), List.forall_mem_cons.mpr ⟨(okcel_lo (k := 8) (i := 0) (n := 43) rfl), List.forall_mem_cons.mpr ⟨(okcel_lo (k := 8) (i := 1) (n := 55) rfl), List.forall_mem_cons.mpr ⟨(okcel_lo (k := 8) (i := 2) (n := 67) rfl), List.forall_mem_cons.mpr ⟨(okcel_lo (k := 9) (i := 0) (n := 0) rfl), List.forall_mem_cons.mpr ⟨okcel_10, List.forall_mem_cons.mpr ⟨(okcel_lo (k := 64) (i := 0) (n := 87) rfl), fun _ h => absurd h List.not_mem_nil⟩⟩⟩⟩⟩⟩⟩⟩⟩⟩⟩⟩⟩⟩⟩
def gzl2 : List ((Nat × Nat) × Nat) := [((65, 0), 89), ((66, 0), 90), ((67, 0), 91), ((128, 0), 7), ((130, 0), 8), ((192, 0), 21), ((192, 1), 38), ((193, 0), 22), ((193, 1), 39), ((194, 0), 23), ((194, 1), 40), ((195, 0), 24), ((195, 1), 41), ((196, 0), 25), ((196, 1), 42)]
set_option maxHeartbeats 4000000 in
theorem okcel_z2 : ∀ y ∈ gzl2, okcel (dOf D c m a9 a10) mu0 (mk10a D m (fl9 D c a9) a10) y := List.forall_mem_cons.mpr ⟨(okcel_lo (k := 65) (i := 0) (n := 88) rfl), List.forall_mem_cons.mpr ⟨(okcel_lo (k := 66) (i := 0) (n := 89) rfl), List.forall_mem_cons.mpr ⟨(okcel_lo (k := 67) (i := 0) (n := 90) rfl), List.forall_mem_cons.mpr ⟨(okcel_lo (k := 128) (i := 0) (n := 6) rfl), List.forall_mem_cons.mpr ⟨(okcel_lo (k := 130) (i := 0) (n := 7) rfl), List.forall_mem_cons.mpr ⟨(okcel_lo (k := 192) (i := 0) (n := 20) rfl), List.forall_mem_cons.mpr ⟨(okcel_lo (k := 192) (i := 1) (n := 37) rfl), List.forall_mem_cons.mpr ⟨(okcel_lo (k := 193) (i := 0) (n := 21) rfl), List.forall_mem_cons.mpr ⟨(okcel_lo (k := 193) (i := 1) (n := 38) rfl), List.forall_mem_cons.mpr ⟨(okcel_lo (k := 194) (i := 0) (n := 22) rfl), List.forall_mem_cons.mpr ⟨(okcel_lo (k := 194) (i := 1) (n := 39) rfl), List.forall_mem_cons.mpr ⟨(okcel_lo (k := 195) (i := 0) (n := 23) rfl), List.forall_mem_cons.mpr ⟨(okcel_lo (k := 195) (i := 1) (n := 40) rfl), List.forall_mem_cons.mpr ⟨(okcel_lo (k := 196) (i := 0) (n := 24) rfl), List.forall_mem_cons.mpr ⟨(okcel_lo (k := 196) (i := 1) (n := 41) rfl), fun _ h => absurd h List.not_mem_nil⟩⟩⟩⟩⟩⟩⟩⟩⟩⟩⟩⟩⟩⟩⟩
def gzl3 : List ((Nat × Nat) × Nat) := [((197, 0), 26), ((197, 1), 43), ((256, 0), 81), ((257, 0), 82), ((258, 0), 83), ((259, 0), 84), ((260, 0), 85), ((261, 0), 86), ((331, 0), 47), ((331, 1), 49), ((331, 2), 51), ((331, 3), 53), ((331, 4), 55), ((331, 5), 59), ((331, 6), 61)]
set_option maxHeartbeats 4000000 in
theorem okcel_z3 : ∀ y ∈ gzl3, okcel (dOf D c m a9 a10) mu0 (mk10a D m (fl9 D c a9) a10) y := List.forall_mem_cons.mpr ⟨(okcel_lo (k := 197) (i := 0) (n := 25) rfl), List.forall_mem_cons.mpr ⟨(okcel_lo (k := 197) (i := 1) (n := 42) rfl), List.forall_mem_cons.mpr ⟨(okcel_lo (k := 256) (i := 0) (n := 80) rfl), List.forall_mem_cons.mpr ⟨(okcel_lo (k := 257) (i := 0) (n := 81) rfl), List.forall_mem_cons.mpr ⟨(okcel_lo (k := 258) (i := 0) (n := 82) rfl), List.forall_mem_cons.mpr ⟨(okcel_lo (k := 259) (i := 0) (n := 83) rfl), List.forall_mem_cons.mpr ⟨(okcel_lo (k := 260) (i := 0) (n := 84) rfl), List.forall_mem_cons.mpr ⟨(okcel_lo (k := 261) (i := 0) (n := 85) rfl), List.forall_mem_cons.mpr ⟨(okcel_lo (k := 331) (i := 0) (n := 46) rfl), List.forall_mem_cons.mpr ⟨(okcel_lo (k := 331) (i := 1) (n := 48) rfl), List.forall_mem_cons.mpr ⟨(okcel_lo (k := 331) (i := 2) (n := 50) rfl), List.forall_mem_cons.mpr ⟨(okcel_lo (k := 331) (i := 3) (n := 52) rfl), List.forall_mem_cons.mpr ⟨(okcel_lo (k := 331) (i := 4) (n := 54) rfl), List.forall_mem_cons.mpr ⟨(okcel_lo (k := 331) (i := 5) (n := 58) rfl), List.forall_mem_cons.mpr ⟨(okcel_lo (k := 331) (i := 6) (n := 60) rfl), fun _ h => absurd h List.not_mem_nil⟩⟩⟩⟩⟩⟩⟩⟩⟩⟩⟩⟩⟩⟩⟩
def gzl4 : List ((Nat × Nat) × Nat) := [((331, 7), 63), ((331, 8), 65), ((331, 9), 67), ((331, 10), 71), ((331, 11), 73), ((331, 12), 75), ((331, 13), 77), ((331, 14), 79), ((386, 0), 9), ((448, 0), 3), ((449, 0), 4), ((513, 0), 11), ((513, 1), 28), ((514, 0), 12), ((514, 1), 29)]
set_option maxHeartbeats 4000000 in
theorem okcel_z4 : ∀ y ∈ gzl4, okcel (dOf D c m a9 a10) mu0 (mk10a D m (fl9 D c a9) a10) y := List.forall_mem_cons.mpr ⟨(okcel_lo (k := 331) (i := 7) (n := 62) rfl), List.forall_mem_cons.mpr ⟨(okcel_lo (k := 331) (i := 8) (n := 64) rfl), List.forall_mem_cons.mpr ⟨(okcel_lo (k := 331) (i := 9) (n := 66) rfl), List.forall_mem_cons.mpr ⟨(okcel_lo (k := 331) (i := 10) (n := 70) rfl), List.forall_mem_cons.mpr ⟨(okcel_lo (k := 331) (i := 11) (n := 72) rfl), List.forall_mem_cons.mpr ⟨(okcel_lo (k := 331) (i := 12) (n := 74) rfl), List.forall_mem_cons.mpr ⟨(okcel_lo (k := 331) (i := 13) (n := 76) rfl), List.forall_mem_cons.mpr ⟨(okcel_lo (k := 331) (i := 14) (n := 78) rfl), List.forall_mem_cons.mpr ⟨(okcel_lo (k := 386) (i := 0) (n := 8) rfl), List.forall_mem_cons.mpr ⟨(okcel_lo (k := 448) (i := 0) (n := 2) rfl), List.forall_mem_cons.mpr ⟨(okcel_lo (k := 449) (i := 0) (n := 3) rfl), List.forall_mem_cons.mpr ⟨(okcel_lo (k := 513) (i := 0) (n := 10) rfl), List.forall_mem_cons.mpr ⟨(okcel_lo (k := 513) (i := 1) (n := 27) rfl), List.forall_mem_cons.mpr ⟨(okcel_lo (k := 514) (i := 0) (n := 11) rfl), List.forall_mem_cons.mpr ⟨(okcel_lo (k := 514) (i := 1) (n := 28) rfl), fun _ h => absurd h List.not_mem_nil⟩⟩⟩⟩⟩⟩⟩⟩⟩⟩⟩⟩⟩⟩⟩
def gzl5 : List ((Nat × Nat) × Nat) := [((515, 0), 13), ((515, 1), 30), ((516, 0), 14), ((516, 1), 31), ((518, 0), 15), ((518, 1), 32), ((519, 0), 16), ((519, 1), 33), ((520, 0), 17), ((520, 1), 34), ((521, 0), 18), ((521, 1), 35), ((523, 0), 19), ((523, 1), 36), ((576, 0), 45)]
set_option maxHeartbeats 4000000 in
theorem okcel_z5 : ∀ y ∈ gzl5, okcel (dOf D c m a9 a10) mu0 (mk10a D m (fl9 D c a9) a10) y := List.forall_mem_cons.mpr ⟨(okcel_lo (k := 515) (i := 0) (n := 12) rfl), List.forall_mem_cons.mpr ⟨(okcel_lo (k := 515) (i := 1) (n := 29) rfl), List.forall_mem_cons.mpr ⟨(okcel_lo (k := 516) (i := 0) (n := 13) rfl), List.forall_mem_cons.mpr ⟨(okcel_lo (k := 516) (i := 1) (n := 30) rfl), List.forall_mem_cons.mpr ⟨(okcel_lo (k := 518) (i := 0) (n := 14) rfl), List.forall_mem_cons.mpr ⟨(okcel_lo (k := 518) (i := 1) (n := 31) rfl), List.forall_mem_cons.mpr ⟨(okcel_lo (k := 519) (i := 0) (n := 15) rfl), List.forall_mem_cons.mpr ⟨(okcel_lo (k := 519) (i := 1) (n := 32) rfl), List.forall_mem_cons.mpr ⟨(okcel_lo (k := 520) (i := 0) (n := 16) rfl), List.forall_mem_cons.mpr ⟨(okcel_lo (k := 520) (i := 1) (n := 33) rfl), List.forall_mem_cons.mpr ⟨(okcel_lo (k := 521) (i := 0) (n := 17) rfl), List.forall_mem_cons.mpr ⟨(okcel_lo (k := 521) (i := 1) (n := 34) rfl), List.forall_mem_cons.mpr ⟨(okcel_lo (k := 523) (i := 0) (n := 18) rfl), List.forall_mem_cons.mpr ⟨(okcel_lo (k := 523) (i := 1) (n := 35) rfl), List.forall_mem_cons.mpr ⟨okcel_p0, fun _ h => absurd h List.not_mem_nil⟩⟩⟩⟩⟩⟩⟩⟩⟩⟩⟩⟩⟩⟩⟩
def gzl6 : List ((Nat × Nat) × Nat) := [((576, 1), 57), ((576, 2), 69), ((649, 0), 92), ((650, 0), 93), ((705, 0), 94), ((707, 0), 95), ((708, 0), 96), ((709, 0), 97), ((710, 0), 98), ((711, 0), 99), ((712, 0), 100), ((713, 0), 101), ((714, 0), 102), ((715, 0), 103), ((716, 0), 104)]
set_option maxHeartbeats 4000000 in
theorem okcel_z6 : ∀ y ∈ gzl6, okcel (dOf D c m a9 a10) mu0 (mk10a D m (fl9 D c a9) a10) y := List.forall_mem_cons.mpr ⟨okcel_p1, List.forall_mem_cons.mpr ⟨okcel_p2, List.forall_mem_cons.mpr ⟨(okcel_lo (k := 649) (i := 0) (n := 91) rfl), List.forall_mem_cons.mpr ⟨(okcel_lo (k := 650) (i := 0) (n := 92) rfl), List.forall_mem_cons.mpr ⟨(okcel_hi (k := 705) (i := 0) (n := 0) rfl), List.forall_mem_cons.mpr ⟨(okcel_hi (k := 707) (i := 0) (n := 1) rfl), List.forall_mem_cons.mpr ⟨(okcel_hi (k := 708) (i := 0) (n := 2) rfl), List.forall_mem_cons.mpr ⟨(okcel_hi (k := 709) (i := 0) (n := 3) rfl), List.forall_mem_cons.mpr ⟨(okcel_hi (k := 710) (i := 0) (n := 4) rfl), List.forall_mem_cons.mpr ⟨(okcel_hi (k := 711) (i := 0) (n := 5) rfl), List.forall_mem_cons.mpr ⟨(okcel_hi (k := 712) (i := 0) (n := 6) rfl), List.forall_mem_cons.mpr ⟨(okcel_hi (k := 713) (i := 0) (n := 7) rfl), List.forall_mem_cons.mpr ⟨(okcel_hi (k := 714) (i := 0) (n := 8) rfl), List.forall_mem_cons.mpr ⟨(okcel_hi (k := 715) (i := 0) (n := 9) rfl), List.forall_mem_cons.mpr ⟨(okcel_hi (k := 716) (i := 0) (n := 10) rfl), fun _ h => absurd h List.not_mem_nil⟩⟩⟩⟩⟩⟩⟩⟩⟩⟩⟩⟩⟩⟩⟩
def gzl7 : List ((Nat × Nat) × Nat) := [((717, 0), 105), ((718, 0), 106), ((719, 0), 107), ((720, 0), 108), ((734, 0), 109), ((735, 0), 110), ((737, 0), 111), ((738, 0), 112), ((739, 0), 113), ((740, 0), 114), ((741, 0), 115), ((742, 0), 116), ((743, 0), 117), ((744, 0), 118), ((745, 0), 119)]
set_option maxHeartbeats 4000000 in
theorem okcel_z7 : ∀ y ∈ gzl7, okcel (dOf D c m a9 a10) mu0 (mk10a D m (fl9 D c a9) a10) y := List.forall_mem_cons.mpr ⟨(okcel_hi (k := 717) (i := 0) (n := 11) rfl), List.forall_mem_cons.mpr ⟨(okcel_hi (k := 718) (i := 0) (n := 12) rfl), List.forall_mem_cons.mpr ⟨(okcel_hi (k := 719) (i := 0) (n := 13) rfl), List.forall_mem_cons.mpr ⟨(okcel_hi (k := 720) (i := 0) (n := 14) rfl), List.forall_mem_cons.mpr ⟨(okcel_hi (k := 734) (i := 0) (n := 15) rfl), List.forall_mem_cons.mpr ⟨(okcel_hi (k := 735) (i := 0) (n := 16) rfl), List.forall_mem_cons.mpr ⟨(okcel_hi (k := 737) (i := 0) (n := 17) rfl), List.forall_mem_cons.mpr ⟨(okcel_hi (k := 738) (i := 0) (n := 18) rfl), List.forall_mem_cons.mpr ⟨(okcel_hi (k := 739) (i := 0) (n := 19) rfl), List.forall_mem_cons.mpr ⟨(okcel_hi (k := 740) (i := 0) (n := 20) rfl), List.forall_mem_cons.mpr ⟨(okcel_hi (k := 741) (i := 0) (n := 21) rfl), List.forall_mem_cons.mpr ⟨(okcel_hi (k := 742) (i := 0) (n := 22) rfl), List.forall_mem_cons.mpr ⟨(okcel_hi (k := 743) (i := 0) (n := 23) rfl), List.forall_mem_cons.mpr ⟨(okcel_hi (k := 744) (i := 0) (n := 24) rfl), List.forall_mem_cons.mpr ⟨(okcel_hi (k := 745) (i := 0) (n := 25) rfl), fun _ h => absurd h List.not_mem_nil⟩⟩⟩⟩⟩⟩⟩⟩⟩⟩⟩⟩⟩⟩⟩
def gzl8 : List ((Nat × Nat) × Nat) := [((746, 0), 120), ((747, 0), 121), ((748, 0), 122), ((749, 0), 123), ((750, 0), 124), ((751, 0), 125), ((757, 0), 126), ((758, 0), 127), ((761, 0), 128), ((762, 0), 129), ((763, 0), 130), ((764, 0), 131), ((765, 0), 132), ((766, 0), 133)]
set_option maxHeartbeats 4000000 in
theorem okcel_z8 : ∀ y ∈ gzl8, okcel (dOf D c m a9 a10) mu0 (mk10a D m (fl9 D c a9) a10) y := List.forall_mem_cons.mpr ⟨(okcel_hi (k := 746) (i := 0) (n := 26) rfl), List.forall_mem_cons.mpr ⟨(okcel_hi (k := 747) (i := 0) (n := 27) rfl), List.forall_mem_cons.mpr ⟨(okcel_hi (k := 748) (i := 0) (n := 28) rfl), List.forall_mem_cons.mpr ⟨(okcel_hi (k := 749) (i := 0) (n := 29) rfl), List.forall_mem_cons.mpr ⟨(okcel_hi (k := 750) (i := 0) (n := 30) rfl), List.forall_mem_cons.mpr ⟨(okcel_hi (k := 751) (i := 0) (n := 31) rfl), List.forall_mem_cons.mpr ⟨(okcel_hi (k := 757) (i := 0) (n := 32) rfl), List.forall_mem_cons.mpr ⟨(okcel_hi (k := 758) (i := 0) (n := 33) rfl), List.forall_mem_cons.mpr ⟨(okcel_hi (k := 761) (i := 0) (n := 34) rfl), List.forall_mem_cons.mpr ⟨(okcel_hi (k := 762) (i := 0) (n := 35) rfl), List.forall_mem_cons.mpr ⟨(okcel_hi (k := 763) (i := 0) (n := 36) rfl), List.forall_mem_cons.mpr ⟨(okcel_hi (k := 764) (i := 0) (n := 37) rfl), List.forall_mem_cons.mpr ⟨(okcel_hi (k := 765) (i := 0) (n := 38) rfl), List.forall_mem_cons.mpr ⟨(okcel_hi (k := 766) (i := 0) (n := 39) rfl), fun _ h => absurd h List.not_mem_nil⟩⟩⟩⟩⟩⟩⟩⟩⟩⟩⟩⟩⟩⟩
def gzl : List ((Nat × Nat) × Nat) := gzl0 ++ (gzl1 ++ (gzl2 ++ (gzl3 ++ (gzl4 ++ (gzl5 ++ (gzl6 ++ (gzl7 ++ (gzl8))))))))
theorem okcel_all : ∀ y ∈ gzl, okcel (dOf D c m a9 a10) mu0 (mk10a D m (fl9 D c a9) a10) y := List.forall_mem_append.mpr ⟨okcel_z0, List.forall_mem_append.mpr ⟨okcel_z1, List.forall_mem_append.mpr ⟨okcel_z2, List.forall_mem_append.mpr ⟨okcel_z3, List.forall_mem_append.mpr ⟨okcel_z4, List.forall_mem_append.mpr ⟨okcel_z5, List.forall_mem_append.mpr ⟨okcel_z6, List.forall_mem_append.mpr ⟨okcel_z7, okcel_z8⟩⟩⟩⟩⟩⟩⟩⟩
end CEL
theorem gzl_1 : gzl.map (fun y => y.1) = gcells := by decide +kernel
theorem gzl_2 : (gzl.map (fun y => y.2)).Nodup := by decide +kernel
theorem gzl_at {D' : gD} {μ : gMem} {k : Nat} {q : Nat × va_E} (h : (gwl D' μ)[k]? = some q) : ∃ y, gzl[k]? = some y ∧ q = (D'.2.2 y.1.1 y.1.2, gE D' μ.2.2 (μ.1 y.1.1 y.1.2) (μ.2.1 y.1.1 y.1.2) y.1.1 y.1.2) := by
  unfold gwl at h
  rw [← gzl_1, List.map_map, List.getElem?_map] at h
  cases hy : gzl[k]? with
  | none => rw [hy] at h; cases h
  | some y => rw [hy] at h; exact ⟨y, rfl, (Option.some.inj h).symm⟩
theorem hold_cel {D' : gD} {μ : gMem} {ws : va_W} {A : Nat → Prop} {H : Heap} (h : ∀ y ∈ gzl, okcel D' μ ws y) (hP : va_P D'.1 vwCl ws H) (hD : va_D A ws) : ghold D' μ H := by
  refine ⟨fun k q hk => ?_, fun i j p q hi hj hpq => ?_, fun k q hk => ?_⟩
  · obtain ⟨y, hy, rfl⟩ := gzl_at hk
    obtain ⟨e9, h1, h2⟩ := h y (List.mem_of_getElem? hy)
    exact h2 H (hP _ _ h1)
  · obtain ⟨y, hy, rfl⟩ := gzl_at hi
    obtain ⟨z, hz, rfl⟩ := gzl_at hj
    obtain ⟨e9, h1, -⟩ := h y (List.mem_of_getElem? hy)
    obtain ⟨e8, h2, -⟩ := h z (List.mem_of_getElem? hz)
    have hyz : y.2 = z.2 := hD.1 _ _ _ _ h1 h2 hpq
    have hl : i < (gzl.map (fun y => y.2)).length := by
      rw [List.length_map]
      exact (List.getElem?_eq_some_iff.mp hy).1
    refine (List.getElem?_inj hl gzl_2).mp ?_
    rw [List.getElem?_map, List.getElem?_map, hy, hz]
    exact congrArg some hyz
  · obtain ⟨y, hy, rfl⟩ := gzl_at hk
    have hm : gcells[k]? = some y.1 := by rw [← gzl_1, List.getElem?_map, hy]; rfl
    exact ⟨y.1.1, y.1.2, gcells_ok hm, rfl⟩
theorem gdom_cel {D' : gD} {μ : gMem} {ws : va_W} {A : Nat → Prop} (h : ∀ y ∈ gzl, okcel D' μ ws y) (hD : va_D A ws) : ∀ q, gdom D' q → A q := by
  rintro q ⟨k, i, hi, rfl⟩
  obtain ⟨n, hn⟩ := gpos hi
  rw [← gzl_1, List.getElem?_map] at hn
  cases hy : gzl[n]? with
  | none => rw [hy] at hn; cases hn
  | some y =>
    rw [hy] at hn
    have e9 : y.1 = (k, i) := Option.some.inj hn
    obtain ⟨e8, h1, -⟩ := h y (List.mem_of_getElem? hy)
    have h2 := hD.2 _ _ h1
    rw [e9] at h2
    exact h2
