/-! MORE ROWS OF G -/
section GR2
variable {l : Launch} {D : gD} {own : String} {cc : ByteArray} {nL d : Nat} {ret : Option FieldType} {post : gP} {Γ : gC} {pc : Nat} {lv : List (Nat × Value)} {st : List Value} {μ : gMem}
theorem g_idiv {x y : Int32} (hdg : decode cc pc = .ok (.idiv, 1)) (hne : ¬ y = 0) (kk : G l D own cc nL ret d post Γ (pc + 1) lv (.int (x / y) :: st) μ) : G l D own cc nL ret d post Γ pc lv (.int y :: .int x :: st) μ := fun H locs ls ok hl hh hS => lv_idiv ok.1 ok.2.1 hdg hne (kk H locs ls ok hl hh hS)
theorem g_irem {x y : Int32} (hdg : decode cc pc = .ok (.irem, 1)) (hne : ¬ y = 0) (kk : G l D own cc nL ret d post Γ (pc + 1) lv (.int (x - x / y * y) :: st) μ) : G l D own cc nL ret d post Γ pc lv (.int y :: .int x :: st) μ := fun H locs ls ok hl hh hS => lv_irem ok.1 ok.2.1 hdg hne (kk H locs ls ok hl hh hS)
theorem g_ishl {x y : Int32} (hdg : decode cc pc = .ok (.ishl, 1)) (kk : G l D own cc nL ret d post Γ (pc + 1) lv (.int (x <<< (y &&& 31)) :: st) μ) : G l D own cc nL ret d post Γ pc lv (.int y :: .int x :: st) μ := fun H locs ls ok hl hh hS => lv_ishl ok.1 ok.2.1 hdg (kk H locs ls ok hl hh hS)
theorem g_ishr {x y : Int32} (hdg : decode cc pc = .ok (.ishr, 1)) (kk : G l D own cc nL ret d post Γ (pc + 1) lv (.int (x >>> (y &&& 31)) :: st) μ) : G l D own cc nL ret d post Γ pc lv (.int y :: .int x :: st) μ := fun H locs ls ok hl hh hS => lv_ishr ok.1 ok.2.1 hdg (kk H locs ls ok hl hh hS)
theorem g_ladd {x y : Int64} (hdg : decode cc pc = .ok (.ladd, 1)) (kk : G l D own cc nL ret d post Γ (pc + 1) lv (.long (x + y) :: st) μ) : G l D own cc nL ret d post Γ pc lv (.long y :: .long x :: st) μ := fun H locs ls ok hl hh hS => lv_ladd ok.1 ok.2.1 hdg (kk H locs ls ok hl hh hS)
theorem g_lsub {x y : Int64} (hdg : decode cc pc = .ok (.lsub, 1)) (kk : G l D own cc nL ret d post Γ (pc + 1) lv (.long (x - y) :: st) μ) : G l D own cc nL ret d post Γ pc lv (.long y :: .long x :: st) μ := fun H locs ls ok hl hh hS => lv_lsub ok.1 ok.2.1 hdg (kk H locs ls ok hl hh hS)
theorem g_lmul {x y : Int64} (hdg : decode cc pc = .ok (.lmul, 1)) (kk : G l D own cc nL ret d post Γ (pc + 1) lv (.long (x * y) :: st) μ) : G l D own cc nL ret d post Γ pc lv (.long y :: .long x :: st) μ := fun H locs ls ok hl hh hS => lv_lmul ok.1 ok.2.1 hdg (kk H locs ls ok hl hh hS)
theorem g_land {x y : Int64} (hdg : decode cc pc = .ok (.land, 1)) (kk : G l D own cc nL ret d post Γ (pc + 1) lv (.long (x &&& y) :: st) μ) : G l D own cc nL ret d post Γ pc lv (.long y :: .long x :: st) μ := fun H locs ls ok hl hh hS => lv_land ok.1 ok.2.1 hdg (kk H locs ls ok hl hh hS)
theorem g_ldiv {x y : Int64} (hdg : decode cc pc = .ok (.ldiv, 1)) (hne : ¬ y = 0) (kk : G l D own cc nL ret d post Γ (pc + 1) lv (.long (x / y) :: st) μ) : G l D own cc nL ret d post Γ pc lv (.long y :: .long x :: st) μ := fun H locs ls ok hl hh hS => lv_ldiv ok.1 ok.2.1 hdg hne (kk H locs ls ok hl hh hS)
theorem g_lrem {x y : Int64} (hdg : decode cc pc = .ok (.lrem, 1)) (hne : ¬ y = 0) (kk : G l D own cc nL ret d post Γ (pc + 1) lv (.long (x - x / y * y) :: st) μ) : G l D own cc nL ret d post Γ pc lv (.long y :: .long x :: st) μ := fun H locs ls ok hl hh hS => lv_lrem ok.1 ok.2.1 hdg hne (kk H locs ls ok hl hh hS)
theorem g_lneg {x : Int64} (hdg : decode cc pc = .ok (.lneg, 1)) (kk : G l D own cc nL ret d post Γ (pc + 1) lv (.long (-x) :: st) μ) : G l D own cc nL ret d post Γ pc lv (.long x :: st) μ := fun H locs ls ok hl hh hS => lv_lneg ok.1 ok.2.1 hdg (kk H locs ls ok hl hh hS)
theorem g_i2l {x : Int32} (hdg : decode cc pc = .ok (.i2l, 1)) (kk : G l D own cc nL ret d post Γ (pc + 1) lv (.long x.toInt64 :: st) μ) : G l D own cc nL ret d post Γ pc lv (.int x :: st) μ := fun H locs ls ok hl hh hS => lv_i2l ok.1 ok.2.1 hdg rfl (kk H locs ls ok hl hh hS)
theorem g_l2i {x : Int64} (hdg : decode cc pc = .ok (.l2i, 1)) (kk : G l D own cc nL ret d post Γ (pc + 1) lv (.int x.toInt32 :: st) μ) : G l D own cc nL ret d post Γ pc lv (.long x :: st) μ := fun H locs ls ok hl hh hS => lv_l2i ok.1 ok.2.1 hdg rfl (kk H locs ls ok hl hh hS)
theorem g_i2b {x : Int32} (hdg : decode cc pc = .ok (.i2b, 1)) (kk : G l D own cc nL ret d post Γ (pc + 1) lv (.int x.toInt8.toInt32 :: st) μ) : G l D own cc nL ret d post Γ pc lv (.int x :: st) μ := fun H locs ls ok hl hh hS => lv_i2b ok.1 ok.2.1 hdg rfl (kk H locs ls ok hl hh hS)
theorem g_iushr {x y : Int32} (hdg : decode cc pc = .ok (.iushr, 1)) (kk : G l D own cc nL ret d post Γ (pc + 1) lv (.int (x.toUInt32 >>> (y.toUInt32 &&& Int32.toUInt32 31)).toInt32 :: st) μ) : G l D own cc nL ret d post Γ pc lv (.int y :: .int x :: st) μ := fun H locs ls ok hl hh hS => lv_iushr ok.1 ok.2.1 hdg rfl (kk H locs ls ok hl hh hS)
theorem g_lcmp {x y : Int64} (hdg : decode cc pc = .ok (.lcmp, 1)) (kk : G l D own cc nL ret d post Γ (pc + 1) lv (.int (lg_cmp x y) :: st) μ) : G l D own cc nL ret d post Γ pc lv (.long y :: .long x :: st) μ := fun H locs ls ok hl hh hS => W.lcmp ok.1 ok.2.1 hdg (kk H locs ls ok hl hh hS)
theorem g_dup {v : Value} (hdg : decode cc pc = .ok (.dup, 1)) (hv : v.category = 1) (kk : G l D own cc nL ret d post Γ (pc + 1) lv (v :: v :: st) μ) : G l D own cc nL ret d post Γ pc lv (v :: st) μ := fun H locs ls ok hl hh hS => lv_dup ok.1 ok.2.1 hdg hv (kk H locs ls ok hl hh hS)
theorem g_pop {v : Value} (hdg : decode cc pc = .ok (.pop, 1)) (hv : v.category = 1) (kk : G l D own cc nL ret d post Γ (pc + 1) lv st μ) : G l D own cc nL ret d post Γ pc lv (v :: st) μ := fun H locs ls ok hl hh hS => lv_pop ok.1 ok.2.1 hdg hv (kk H locs ls ok hl hh hS)
theorem g_dup2 {v w : Value} (hdg : decode cc pc = .ok (.dup2, 1)) (hv : v.category = 1) (hw : w.category = 1) (kk : G l D own cc nL ret d post Γ (pc + 1) lv (v :: w :: v :: w :: st) μ) : G l D own cc nL ret d post Γ pc lv (v :: w :: st) μ := fun H locs ls ok hl hh hS => lv_dup2_11 ok.1 ok.2.1 hdg hv hw (kk H locs ls ok hl hh hS)
theorem g_goto {off : Int} {tgt : Nat} (hdg : decode cc pc = .ok (.goto off, 3)) (ht : (pc : Int) + off = (tgt : Int)) (kk : G l D own cc nL ret d post Γ tgt lv st μ) : G l D own cc nL ret d post Γ pc lv st μ := fun H locs ls ok hl hh hS => lv_goto ok.1 ok.2.1 hdg ht (kk H locs ls ok hl hh hS)
theorem g_if_eq {x : Int32} {off : Int} {tgt : Nat} (hdg : decode cc pc = .ok (.ifCond .eq off, 3)) (ht : (pc : Int) + off = (tgt : Int)) (kt : x = 0 → G l D own cc nL ret d post Γ tgt lv st μ) (kf : ¬ x = 0 → G l D own cc nL ret d post Γ (pc + 3) lv st μ) : G l D own cc nL ret d post Γ pc lv (.int x :: st) μ := fun H locs ls ok hl hh hS => lv_if_eq ok.1 ok.2.1 hdg ht (fun h => kt h H locs ls ok hl hh hS) (fun h => kf h H locs ls ok hl hh hS)
theorem g_icmp_eq {x y : Int32} {off : Int} {tgt : Nat} (hdg : decode cc pc = .ok (.if_icmp .eq off, 3)) (ht : (pc : Int) + off = (tgt : Int)) (kt : x = y → G l D own cc nL ret d post Γ tgt lv st μ) (kf : ¬ x = y → G l D own cc nL ret d post Γ (pc + 3) lv st μ) : G l D own cc nL ret d post Γ pc lv (.int y :: .int x :: st) μ := fun H locs ls ok hl hh hS => lv_icmp_eq ok.1 ok.2.1 hdg ht (fun h => kt h H locs ls ok hl hh hS) (fun h => kf h H locs ls ok hl hh hS)
theorem g_if_ne {x : Int32} {off : Int} {tgt : Nat} (hdg : decode cc pc = .ok (.ifCond .ne off, 3)) (ht : (pc : Int) + off = (tgt : Int)) (kt : ¬ x = 0 → G l D own cc nL ret d post Γ tgt lv st μ) (kf : x = 0 → G l D own cc nL ret d post Γ (pc + 3) lv st μ) : G l D own cc nL ret d post Γ pc lv (.int x :: st) μ := fun H locs ls ok hl hh hS => lv_if_ne ok.1 ok.2.1 hdg ht (fun h => kt h H locs ls ok hl hh hS) (fun h => kf h H locs ls ok hl hh hS)
theorem g_icmp_ne {x y : Int32} {off : Int} {tgt : Nat} (hdg : decode cc pc = .ok (.if_icmp .ne off, 3)) (ht : (pc : Int) + off = (tgt : Int)) (kt : ¬ x = y → G l D own cc nL ret d post Γ tgt lv st μ) (kf : x = y → G l D own cc nL ret d post Γ (pc + 3) lv st μ) : G l D own cc nL ret d post Γ pc lv (.int y :: .int x :: st) μ := fun H locs ls ok hl hh hS => lv_icmp_ne ok.1 ok.2.1 hdg ht (fun h => kt h H locs ls ok hl hh hS) (fun h => kf h H locs ls ok hl hh hS)
theorem g_if_lt {x : Int32} {off : Int} {tgt : Nat} (hdg : decode cc pc = .ok (.ifCond .lt off, 3)) (ht : (pc : Int) + off = (tgt : Int)) (kt : x < 0 → G l D own cc nL ret d post Γ tgt lv st μ) (kf : ¬ x < 0 → G l D own cc nL ret d post Γ (pc + 3) lv st μ) : G l D own cc nL ret d post Γ pc lv (.int x :: st) μ := fun H locs ls ok hl hh hS => lv_if_lt ok.1 ok.2.1 hdg ht (fun h => kt h H locs ls ok hl hh hS) (fun h => kf h H locs ls ok hl hh hS)
theorem g_icmp_lt {x y : Int32} {off : Int} {tgt : Nat} (hdg : decode cc pc = .ok (.if_icmp .lt off, 3)) (ht : (pc : Int) + off = (tgt : Int)) (kt : x < y → G l D own cc nL ret d post Γ tgt lv st μ) (kf : ¬ x < y → G l D own cc nL ret d post Γ (pc + 3) lv st μ) : G l D own cc nL ret d post Γ pc lv (.int y :: .int x :: st) μ := fun H locs ls ok hl hh hS => lv_icmp_lt ok.1 ok.2.1 hdg ht (fun h => kt h H locs ls ok hl hh hS) (fun h => kf h H locs ls ok hl hh hS)
theorem g_if_ge {x : Int32} {off : Int} {tgt : Nat} (hdg : decode cc pc = .ok (.ifCond .ge off, 3)) (ht : (pc : Int) + off = (tgt : Int)) (kt : 0 ≤ x → G l D own cc nL ret d post Γ tgt lv st μ) (kf : ¬ 0 ≤ x → G l D own cc nL ret d post Γ (pc + 3) lv st μ) : G l D own cc nL ret d post Γ pc lv (.int x :: st) μ := fun H locs ls ok hl hh hS => lv_if_ge ok.1 ok.2.1 hdg ht (fun h => kt h H locs ls ok hl hh hS) (fun h => kf h H locs ls ok hl hh hS)
theorem g_icmp_ge {x y : Int32} {off : Int} {tgt : Nat} (hdg : decode cc pc = .ok (.if_icmp .ge off, 3)) (ht : (pc : Int) + off = (tgt : Int)) (kt : y ≤ x → G l D own cc nL ret d post Γ tgt lv st μ) (kf : ¬ y ≤ x → G l D own cc nL ret d post Γ (pc + 3) lv st μ) : G l D own cc nL ret d post Γ pc lv (.int y :: .int x :: st) μ := fun H locs ls ok hl hh hS => lv_icmp_ge ok.1 ok.2.1 hdg ht (fun h => kt h H locs ls ok hl hh hS) (fun h => kf h H locs ls ok hl hh hS)
theorem g_if_gt {x : Int32} {off : Int} {tgt : Nat} (hdg : decode cc pc = .ok (.ifCond .gt off, 3)) (ht : (pc : Int) + off = (tgt : Int)) (kt : 0 < x → G l D own cc nL ret d post Γ tgt lv st μ) (kf : ¬ 0 < x → G l D own cc nL ret d post Γ (pc + 3) lv st μ) : G l D own cc nL ret d post Γ pc lv (.int x :: st) μ := fun H locs ls ok hl hh hS => lv_if_gt ok.1 ok.2.1 hdg ht (fun h => kt h H locs ls ok hl hh hS) (fun h => kf h H locs ls ok hl hh hS)
theorem g_icmp_gt {x y : Int32} {off : Int} {tgt : Nat} (hdg : decode cc pc = .ok (.if_icmp .gt off, 3)) (ht : (pc : Int) + off = (tgt : Int)) (kt : y < x → G l D own cc nL ret d post Γ tgt lv st μ) (kf : ¬ y < x → G l D own cc nL ret d post Γ (pc + 3) lv st μ) : G l D own cc nL ret d post Γ pc lv (.int y :: .int x :: st) μ := fun H locs ls ok hl hh hS => lv_icmp_gt ok.1 ok.2.1 hdg ht (fun h => kt h H locs ls ok hl hh hS) (fun h => kf h H locs ls ok hl hh hS)
theorem g_if_le {x : Int32} {off : Int} {tgt : Nat} (hdg : decode cc pc = .ok (.ifCond .le off, 3)) (ht : (pc : Int) + off = (tgt : Int)) (kt : x ≤ 0 → G l D own cc nL ret d post Γ tgt lv st μ) (kf : ¬ x ≤ 0 → G l D own cc nL ret d post Γ (pc + 3) lv st μ) : G l D own cc nL ret d post Γ pc lv (.int x :: st) μ := fun H locs ls ok hl hh hS => lv_if_le ok.1 ok.2.1 hdg ht (fun h => kt h H locs ls ok hl hh hS) (fun h => kf h H locs ls ok hl hh hS)
theorem g_icmp_le {x y : Int32} {off : Int} {tgt : Nat} (hdg : decode cc pc = .ok (.if_icmp .le off, 3)) (ht : (pc : Int) + off = (tgt : Int)) (kt : x ≤ y → G l D own cc nL ret d post Γ tgt lv st μ) (kf : ¬ x ≤ y → G l D own cc nL ret d post Γ (pc + 3) lv st μ) : G l D own cc nL ret d post Γ pc lv (.int y :: .int x :: st) μ := fun H locs ls ok hl hh hS => lv_icmp_le ok.1 ok.2.1 hdg ht (fun h => kt h H locs ls ok hl hh hS) (fun h => kf h H locs ls ok hl hh hS)
theorem g_tableOut {dflt lo hi : Int} {offs : Array Int} {len : Nat} {x : Int32} {tgt : Nat} (hdg : decode cc pc = .ok (.tableswitch dflt lo hi offs, len)) (h : x.toInt < lo ∨ hi < x.toInt) (ht : (pc : Int) + dflt = (tgt : Int)) (kk : G l D own cc nL ret d post Γ tgt lv st μ) : G l D own cc nL ret d post Γ pc lv (.int x :: st) μ := fun H locs ls ok hl hh hS => lv_tableOut ok.1 ok.2.1 hdg h ht (kk H locs ls ok hl hh hS)
theorem g_tableIn {dflt lo hi : Int} {offs : Array Int} {len : Nat} {x : Int32} {off : Int} {tgt : Nat} (hdg : decode cc pc = .ok (.tableswitch dflt lo hi offs, len)) (h1 : ¬ x.toInt < lo) (h2 : ¬ hi < x.toInt) (ho : offs[(x.toInt - lo).toNat]? = some off) (ht : (pc : Int) + off = (tgt : Int)) (kk : G l D own cc nL ret d post Γ tgt lv st μ) : G l D own cc nL ret d post Γ pc lv (.int x :: st) μ := fun H locs ls ok hl hh hS => lv_tableIn ok.1 ok.2.1 hdg h1 h2 ho ht (kk H locs ls ok hl hh hS)
theorem g_lookup {dflt : Int} {ps : Array (Int × Int)} {len : Nat} {x : Int32} {off : Int} {tgt : Nat} (hdg : decode cc pc = .ok (.lookupswitch dflt ps, len)) (hp : (ps.toList.zip (ps.toList.drop 1)).all (fun (a, next) => a.1 < next.1) = true) (ho : Op.lookupswitch.offset ps.toList dflt x.toInt = off) (ht : (pc : Int) + off = (tgt : Int)) (kk : G l D own cc nL ret d post Γ tgt lv st μ) : G l D own cc nL ret d post Γ pc lv (.int x :: st) μ := fun H locs ls ok hl hh hS => lv_lookup ok.1 ok.2.1 hdg hp ho ht (kk H locs ls ok hl hh hS)
-- the memory
/-- an object's slot read -/
theorem g_get {k i index c : Nat} (j : Nat) {v : Value} (hi : i < gkn k) (hsh : gsh k = (0, c, (gsh k).2.2)) (hc : c < 11) (hN : j < (gsh k).2.2) (hNN : vwCl[c]? = some (gCn c, gTt c, (gsh k).2.2)) (hw : Cond.fieldLink own index (gTt c j).1 (gTt c j).2.1 (gTt c j).2.2.1 ∈ gw) (hin : ∀ w ∈ u_ws (gCn c) (gTt c) (gsh k).2.2, w ∈ gw) (hv : gsv D μ.2.2 (μ.1 k i) (μ.2.1 k i) k i j = v)
    (hdg : decode cc pc = .ok (.getfield index, 3)) (kk : G l D own cc nL ret d post Γ (pc + 3) lv (v :: st) μ) : G l D own cc nL ret d post Γ pc lv (.ref (D.2.2 k i) :: st) μ := by
  intro H locs ls ok hl hh hS
  obtain ⟨q, hq⟩ := gpos hi
  have he := gat (D := D) (μ := μ) hq
  have e1 : gE D μ.2.2 (μ.1 k i) (μ.2.1 k i) k i = .inr (c, (List.range (gsh k).2.2).map (gsv D μ.2.2 (μ.1 k i) (μ.2.1 k i) k i)) := by
    unfold gE
    rw [hsh]
    rfl
  rw [e1] at he
  exact va_get (D := D.1) (ci := c) (v := v) (C := gCn c) (T := gTt c) (N := (gsh k).2.2) ok.1 ok.2.1 ok.2.2.2.2.1 hin ok.2.2.2.1 ok.2.2.2.2.2.1.1 hh.1 q he hNN j hN (ok.2.2.2.2.1 _ hw) (fun _ h9 => h9) (by simp [hN, hv]) hdg (kk H locs ls ok hl hh hS)

/-- the heap holds the new memory -/
theorem ghold_set {D : gD} {μ μ' : gMem} {k i q : Nat} {e : va_E} {H1 : Heap} (hq : gcells[q]? = some (k, i)) (h1 : gE D μ'.2.2 (μ'.1 k i) (μ'.2.1 k i) k i = e)
    (h2 : ∀ k' i', i' < gkn k' → ¬ (k' = k ∧ i' = i) → gE D μ'.2.2 (μ'.1 k' i') (μ'.2.1 k' i') k' i' = gE D μ.2.2 (μ.1 k' i') (μ.2.1 k' i') k' i') (hP : va_P D.1 vwCl ((gwl D μ).set q (D.2.2 k i, e)) H1) (hD : va_D (gdom D) ((gwl D μ).set q (D.2.2 k i, e))) : ghold D μ' H1 := by
  rw [gset hq h1 h2] at hP hD
  exact ⟨hP, hD⟩
/-- an object's int slot written -/
theorem g_put {k i index c : Nat} (j : Nat) {v : Int32} {ty : FieldType} (hi : i < gkn k) (hsh : gsh k = (0, c, (gsh k).2.2)) (hc : c < 11) (hN : j < (gsh k).2.2) (hNN : vwCl[c]? = some (gCn c, gTt c, (gsh k).2.2)) (hw : Cond.fieldLink own index (gTt c j).1 (gTt c j).2.1 (gTt c j).2.2.1 ∈ gw) (hin : ∀ w ∈ u_ws (gCn c) (gTt c) (gsh k).2.2, w ∈ gw)
    (hty : ∀ n, n < (gsh k).2.2 → parseFieldDescriptor (gTt c n).2.2.1 = some (gtyf c n)) (hnm : ∀ a, a < (gsh k).2.2 → ∀ b, b < (gsh k).2.2 → a ≠ b → (gTt c a).2.1 ≠ (gTt c b).2.1) (hfin : (gTt c j).2.2.2 = false) (hd : gtyf c j = ty) (hn : narrow ty (.int v) = .int v) (hf : fits ty (.int v) = true) (hr : ∀ r i, grf k i j r = none) (hg : glg k j = false)
    (hdg : decode cc pc = .ok (.putfield index, 3)) (kk : G l D own cc nL ret d post Γ (pc + 3) lv st (gsI μ k i j v)) : G l D own cc nL ret d post Γ pc lv (.int v :: .ref (D.2.2 k i) :: st) μ := by
  intro H locs ls ok hl hh hS
  obtain ⟨q, hq⟩ := gpos hi
  have he := gat (D := D) (μ := μ) hq
  have e0 : ∀ μ : gMem, gE D μ.2.2 (μ.1 k i) (μ.2.1 k i) k i = .inr (c, (List.range (gsh k).2.2).map (gsv D μ.2.2 (μ.1 k i) (μ.2.1 k i) k i)) := fun μ => by
    unfold gE
    rw [hsh]
    rfl
  rw [e0 μ] at he
  refine va_put (D := D.1) (ci := c) (v := .int v) (ty := ty) (C := gCn c) (T := gTt c) (N := (gsh k).2.2) ok.1 ok.2.1 ok.2.2.2.2.1 hin (gtyf c) hty hnm ok.2.2.2.1 ok.2.2.2.2.2.1.1 hh.1 hh.2 hS q he hNN j hN (ok.2.2.2.2.1 _ hw) (fun _ h9 => h9) hfin (by rw [hty j hN, hd]) hn hf (by simp [hN]) hdg (fun H1 locs1 hP hD hS1 => ?_)
  refine kk H1 locs1 ls ok hl (ghold_set hq ?_ ?_ hP hD) hS1
  · rw [e0 (gsI μ k i j v), gset_map]
    · simp [gsv, hr, hg, gsI, u3]
    · intro n hn
      have e9 : (gsI μ k i j v).1 k i n = μ.1 k i n := by simp [gsI, u3, hn]
      unfold gsv
      rw [e9]
      rfl
  · intro k' i' _ h
    show gE D μ.2.2 (u3 μ.1 k i j v k' i') (μ.2.1 k' i') k' i' = _
    rw [u3_row _ _ _ _ _ h]
/-- an object's long slot written -/
theorem g_putL {k i index c : Nat} (j : Nat) {v : Int64} (hi : i < gkn k) (hsh : gsh k = (0, c, (gsh k).2.2)) (hc : c < 11) (hN : j < (gsh k).2.2) (hNN : vwCl[c]? = some (gCn c, gTt c, (gsh k).2.2)) (hw : Cond.fieldLink own index (gTt c j).1 (gTt c j).2.1 (gTt c j).2.2.1 ∈ gw) (hin : ∀ w ∈ u_ws (gCn c) (gTt c) (gsh k).2.2, w ∈ gw)
    (hty : ∀ n, n < (gsh k).2.2 → parseFieldDescriptor (gTt c n).2.2.1 = some (gtyf c n)) (hnm : ∀ a, a < (gsh k).2.2 → ∀ b, b < (gsh k).2.2 → a ≠ b → (gTt c a).2.1 ≠ (gTt c b).2.1) (hfin : (gTt c j).2.2.2 = false) (hd : gtyf c j = .long) (hr : ∀ r i, grf k i j r = none) (hg : glg k j = true)
    (hdg : decode cc pc = .ok (.putfield index, 3)) (kk : G l D own cc nL ret d post Γ (pc + 3) lv st (gsL μ k i j v)) : G l D own cc nL ret d post Γ pc lv (.long v :: .ref (D.2.2 k i) :: st) μ := by
  intro H locs ls ok hl hh hS
  obtain ⟨q, hq⟩ := gpos hi
  have he := gat (D := D) (μ := μ) hq
  have e0 : ∀ μ : gMem, gE D μ.2.2 (μ.1 k i) (μ.2.1 k i) k i = .inr (c, (List.range (gsh k).2.2).map (gsv D μ.2.2 (μ.1 k i) (μ.2.1 k i) k i)) := fun μ => by
    unfold gE
    rw [hsh]
    rfl
  rw [e0 μ] at he
  refine va_put (D := D.1) (ci := c) (v := .long v) (ty := .long) (C := gCn c) (T := gTt c) (N := (gsh k).2.2) ok.1 ok.2.1 ok.2.2.2.2.1 hin (gtyf c) hty hnm ok.2.2.2.1 ok.2.2.2.2.2.1.1 hh.1 hh.2 hS q he hNN j hN (ok.2.2.2.2.1 _ hw) (fun _ h9 => h9) hfin (by rw [hty j hN, hd]) rfl rfl (by simp [hN]) hdg (fun H1 locs1 hP hD hS1 => ?_)
  refine kk H1 locs1 ls ok hl (ghold_set hq ?_ ?_ hP hD) hS1
  · rw [e0 (gsL μ k i j v), gset_map]
    · simp [gsv, hr, hg, gsL, u3]
    · intro n hn
      have e9 : (gsL μ k i j v).2.1 k i n = μ.2.1 k i n := by simp [gsL, u3, hn]
      unfold gsv
      rw [e9]
      rfl
  · intro k' i' _ h
    show gE D μ.2.2 (μ.1 k' i') (u3 μ.2.1 k i j v k' i') k' i' = _
    rw [u3_row _ _ _ _ _ h]

theorem g_iald {k i n : Nat} (j : Nat) {x : Int32} (hi : i < gkn k) (hsh : gsh k = (1, n, 0)) (hj : j < n) (hn : n < 2 ^ 31) (hx : x = nI j) (hdg : decode cc pc = .ok (.iaload, 1)) (kk : G l D own cc nL ret d post Γ (pc + 1) lv (.int (μ.1 k i j) :: st) μ) : G l D own cc nL ret d post Γ pc lv (.int x :: .ref (D.2.2 k i) :: st) μ := by
  intro H locs ls ok hl hh hS
  obtain ⟨q, hq⟩ := gpos hi
  have he := gat (D := D) (μ := μ) hq
  have e0 : ∀ μ : gMem, gE D μ.2.2 (μ.1 k i) (μ.2.1 k i) k i = .inl (D.2.1 1, n, .inl (μ.1 k i)) := fun μ => by
    unfold gE
    rw [hsh]
    rfl
  rw [e0 μ] at he
  subst hx
  refine va_iald ok.1 ok.2.1 ok.2.2.2.2.2.1.1 hh.1 q 0 he rfl (vp_in_nI hj hn) hdg ?_
  rw [nI_clamp (Nat.lt_trans hj hn)]
  exact kk H locs ls ok hl hh hS
theorem g_iast {k i n : Nat} (j : Nat) {y x : Int32} (hi : i < gkn k) (hsh : gsh k = (1, n, 0)) (hj : j < n) (hn : n < 2 ^ 31) (hx : y = nI j) (hdg : decode cc pc = .ok (.iastore, 1)) (kk : G l D own cc nL ret d post Γ (pc + 1) lv st (gsI μ k i j x)) : G l D own cc nL ret d post Γ pc lv (.int x :: .int y :: .ref (D.2.2 k i) :: st) μ := by
  intro H locs ls ok hl hh hS
  obtain ⟨q, hq⟩ := gpos hi
  have he := gat (D := D) (μ := μ) hq
  have e0 : ∀ μ : gMem, gE D μ.2.2 (μ.1 k i) (μ.2.1 k i) k i = .inl (D.2.1 1, n, .inl (μ.1 k i)) := fun μ => by
    unfold gE
    rw [hsh]
    rfl
  rw [e0 μ] at he
  subst hx
  refine va_iast ok.1 ok.2.1 ok.2.2.2.2.2.1.1 hh.1 hh.2 hS q 0 he rfl (vp_in_nI hj hn) hdg (fun H1 locs1 hP hD hS1 => ?_)
  rw [nI_clamp (Nat.lt_trans hj hn)] at hP hD
  refine kk H1 locs1 ls ok hl (ghold_set hq ?_ ?_ hP hD) hS1
  · rw [e0 (gsI μ k i j x)]
    have e9 : (gsI μ k i j x).1 k i = upd (μ.1 k i) j x := by
      funext z
      by_cases hz : z = j <;> simp [gsI, u3, upd, hz]
    rw [e9]
  · intro k' i' _ h
    show gE D μ.2.2 (u3 μ.1 k i j x k' i') (μ.2.1 k' i') k' i' = _
    rw [u3_row _ _ _ _ _ h]

theorem g_bald {k i n : Nat} (j : Nat) {x : Int32} (hi : i < gkn k) (hsh : gsh k = (2, n, 0)) (hj : j < n) (hn : n < 2 ^ 31) (hx : x = nI j) (hdg : decode cc pc = .ok (.baload, 1)) (kk : G l D own cc nL ret d post Γ (pc + 1) lv (.int (μ.1 k i j) :: st) μ) : G l D own cc nL ret d post Γ pc lv (.int x :: .ref (D.2.2 k i) :: st) μ := by
  intro H locs ls ok hl hh hS
  obtain ⟨q, hq⟩ := gpos hi
  have he := gat (D := D) (μ := μ) hq
  have e0 : ∀ μ : gMem, gE D μ.2.2 (μ.1 k i) (μ.2.1 k i) k i = .inl (D.2.1 2, n, .inl (μ.1 k i)) := fun μ => by
    unfold gE
    rw [hsh]
    rfl
  rw [e0 μ] at he
  subst hx
  refine va_bald ok.1 ok.2.1 ok.2.2.2.2.2.1.1 hh.1 q 1 he rfl (vp_in_nI hj hn) hdg ?_
  rw [nI_clamp (Nat.lt_trans hj hn)]
  exact kk H locs ls ok hl hh hS
theorem g_bast {k i n : Nat} (j : Nat) {y x : Int32} (hi : i < gkn k) (hsh : gsh k = (2, n, 0)) (hj : j < n) (hn : n < 2 ^ 31) (hx : y = nI j) (hdg : decode cc pc = .ok (.bastore, 1)) (kk : G l D own cc nL ret d post Γ (pc + 1) lv st (gsI μ k i j (vp_nar .byte x))) : G l D own cc nL ret d post Γ pc lv (.int x :: .int y :: .ref (D.2.2 k i) :: st) μ := by
  intro H locs ls ok hl hh hS
  obtain ⟨q, hq⟩ := gpos hi
  have he := gat (D := D) (μ := μ) hq
  have e0 : ∀ μ : gMem, gE D μ.2.2 (μ.1 k i) (μ.2.1 k i) k i = .inl (D.2.1 2, n, .inl (μ.1 k i)) := fun μ => by
    unfold gE
    rw [hsh]
    rfl
  rw [e0 μ] at he
  subst hx
  refine va_bast ok.1 ok.2.1 ok.2.2.2.2.2.1.1 hh.1 hh.2 hS q 1 he rfl (vp_in_nI hj hn) hdg (fun H1 locs1 hP hD hS1 => ?_)
  rw [nI_clamp (Nat.lt_trans hj hn)] at hP hD
  refine kk H1 locs1 ls ok hl (ghold_set hq ?_ ?_ hP hD) hS1
  · rw [e0 (gsI μ k i j (vp_nar .byte x))]
    have e9 : (gsI μ k i j (vp_nar .byte x)).1 k i = upd (μ.1 k i) j (vp_nar .byte x) := by
      funext z
      by_cases hz : z = j <;> simp [gsI, u3, upd, hz]
    rw [e9]
  · intro k' i' _ h
    show gE D μ.2.2 (u3 μ.1 k i j (vp_nar .byte x) k' i') (μ.2.1 k' i') k' i' = _
    rw [u3_row _ _ _ _ _ h]

theorem g_zald {k i n : Nat} (j : Nat) {x : Int32} (hi : i < gkn k) (hsh : gsh k = (3, n, 0)) (hj : j < n) (hn : n < 2 ^ 31) (hx : x = nI j) (hdg : decode cc pc = .ok (.baload, 1)) (kk : G l D own cc nL ret d post Γ (pc + 1) lv (.int (μ.1 k i j) :: st) μ) : G l D own cc nL ret d post Γ pc lv (.int x :: .ref (D.2.2 k i) :: st) μ := by
  intro H locs ls ok hl hh hS
  obtain ⟨q, hq⟩ := gpos hi
  have he := gat (D := D) (μ := μ) hq
  have e0 : ∀ μ : gMem, gE D μ.2.2 (μ.1 k i) (μ.2.1 k i) k i = .inl (D.2.1 3, n, .inl (μ.1 k i)) := fun μ => by
    unfold gE
    rw [hsh]
    rfl
  rw [e0 μ] at he
  subst hx
  refine va_zald ok.1 ok.2.1 ok.2.2.2.2.2.1.1 hh.1 q 2 he rfl (vp_in_nI hj hn) hdg ?_
  rw [nI_clamp (Nat.lt_trans hj hn)]
  exact kk H locs ls ok hl hh hS
theorem g_zast {k i n : Nat} (j : Nat) {y x : Int32} (hi : i < gkn k) (hsh : gsh k = (3, n, 0)) (hj : j < n) (hn : n < 2 ^ 31) (hx : y = nI j) (hdg : decode cc pc = .ok (.bastore, 1)) (kk : G l D own cc nL ret d post Γ (pc + 1) lv st (gsI μ k i j (vp_nar .boolean x))) : G l D own cc nL ret d post Γ pc lv (.int x :: .int y :: .ref (D.2.2 k i) :: st) μ := by
  intro H locs ls ok hl hh hS
  obtain ⟨q, hq⟩ := gpos hi
  have he := gat (D := D) (μ := μ) hq
  have e0 : ∀ μ : gMem, gE D μ.2.2 (μ.1 k i) (μ.2.1 k i) k i = .inl (D.2.1 3, n, .inl (μ.1 k i)) := fun μ => by
    unfold gE
    rw [hsh]
    rfl
  rw [e0 μ] at he
  subst hx
  refine va_zast ok.1 ok.2.1 ok.2.2.2.2.2.1.1 hh.1 hh.2 hS q 2 he rfl (vp_in_nI hj hn) hdg (fun H1 locs1 hP hD hS1 => ?_)
  rw [nI_clamp (Nat.lt_trans hj hn)] at hP hD
  refine kk H1 locs1 ls ok hl (ghold_set hq ?_ ?_ hP hD) hS1
  · rw [e0 (gsI μ k i j (vp_nar .boolean x))]
    have e9 : (gsI μ k i j (vp_nar .boolean x)).1 k i = upd (μ.1 k i) j (vp_nar .boolean x) := by
      funext z
      by_cases hz : z = j <;> simp [gsI, u3, upd, hz]
    rw [e9]
  · intro k' i' _ h
    show gE D μ.2.2 (u3 μ.1 k i j (vp_nar .boolean x) k' i') (μ.2.1 k' i') k' i' = _
    rw [u3_row _ _ _ _ _ h]

theorem g_lald {k i n : Nat} (j : Nat) {x : Int32} (hi : i < gkn k) (hsh : gsh k = (4, n, 0)) (hj : j < n) (hn : n < 2 ^ 31) (hx : x = nI j) (hdg : decode cc pc = .ok (.laload, 1)) (kk : G l D own cc nL ret d post Γ (pc + 1) lv (.long (μ.2.1 k i j) :: st) μ) : G l D own cc nL ret d post Γ pc lv (.int x :: .ref (D.2.2 k i) :: st) μ := by
  intro H locs ls ok hl hh hS
  obtain ⟨q, hq⟩ := gpos hi
  have he := gat (D := D) (μ := μ) hq
  have e0 : ∀ μ : gMem, gE D μ.2.2 (μ.1 k i) (μ.2.1 k i) k i = .inl (D.2.1 4, n, .inr (.inl (μ.2.1 k i))) := fun μ => by
    unfold gE
    rw [hsh]
    rfl
  rw [e0 μ] at he
  subst hx
  refine va_lald ok.1 ok.2.1 ok.2.2.2.2.2.1.1 hh.1 q 3 he rfl (vp_in_nI hj hn) hdg ?_
  rw [nI_clamp (Nat.lt_trans hj hn)]
  exact kk H locs ls ok hl hh hS
theorem g_last {k i n : Nat} (j : Nat) {y : Int32} {x : Int64} (hi : i < gkn k) (hsh : gsh k = (4, n, 0)) (hj : j < n) (hn : n < 2 ^ 31) (hx : y = nI j) (hdg : decode cc pc = .ok (.lastore, 1)) (kk : G l D own cc nL ret d post Γ (pc + 1) lv st (gsL μ k i j x)) : G l D own cc nL ret d post Γ pc lv (.long x :: .int y :: .ref (D.2.2 k i) :: st) μ := by
  intro H locs ls ok hl hh hS
  obtain ⟨q, hq⟩ := gpos hi
  have he := gat (D := D) (μ := μ) hq
  have e0 : ∀ μ : gMem, gE D μ.2.2 (μ.1 k i) (μ.2.1 k i) k i = .inl (D.2.1 4, n, .inr (.inl (μ.2.1 k i))) := fun μ => by
    unfold gE
    rw [hsh]
    rfl
  rw [e0 μ] at he
  subst hx
  refine va_last ok.1 ok.2.1 ok.2.2.2.2.2.1.1 hh.1 hh.2 hS q 3 he rfl (vp_in_nI hj hn) hdg (fun H1 locs1 hP hD hS1 => ?_)
  rw [nI_clamp (Nat.lt_trans hj hn)] at hP hD
  refine kk H1 locs1 ls ok hl (ghold_set hq ?_ ?_ hP hD) hS1
  · rw [e0 (gsL μ k i j x)]
    have e9 : (gsL μ k i j x).2.1 k i = vp_updL (μ.2.1 k i) j x := by
      funext z
      by_cases hz : z = j <;> simp [gsL, u3, vp_updL, hz]
    rw [e9]
  · intro k' i' _ h
    show gE D μ.2.2 (μ.1 k' i') (u3 μ.2.1 k i j x k' i') k' i' = _
    rw [u3_row _ _ _ _ _ h]
/-- a person of a world -/
theorem g_aald {i : Nat} (j : Nat) {x : Int32} (hi : i < 3) (hj : j < 5) (hx : x = nI j) (hdg : decode cc pc = .ok (.aaload, 1)) (kk : G l D own cc nL ret d post Γ (pc + 1) lv (.ref (D.2.2 4 (5 * i + j)) :: st) μ) : G l D own cc nL ret d post Γ pc lv (.int x :: .ref (D.2.2 576 i) :: st) μ := by
  intro H locs ls ok hl hh hS
  obtain ⟨q, hq⟩ := gpos (k := 576) (i := i) hi
  have he := gat (D := D) (μ := μ) hq
  subst hx
  refine va_aldq (C := "WristGoal$Person") ok.1 ok.2.1 ok.2.2.2.2.2.1.1 hh.1 q 4 he rfl (vp_in_nI (N := 5) hj (by decide)) hdg ?_
  rw [nI_clamp (Nat.lt_trans hj (by decide))]
  exact kk H locs ls ok hl hh hS
theorem g_alen {k i t n : Nat} (hi : i < gkn k) (hsh : gsh k = (t, n, 0)) (ht : t = 1 ∨ t = 2 ∨ t = 3) (hdg : decode cc pc = .ok (.arraylength, 1)) (kk : G l D own cc nL ret d post Γ (pc + 1) lv (.int (nI n) :: st) μ) : G l D own cc nL ret d post Γ pc lv (.ref (D.2.2 k i) :: st) μ := by
  intro H locs ls ok hl hh hS
  obtain ⟨q, hq⟩ := gpos hi
  have he := gat (D := D) (μ := μ) hq
  have e0 : gE D μ.2.2 (μ.1 k i) (μ.2.1 k i) k i = .inl (D.2.1 t, n, .inl (μ.1 k i)) := by
    unfold gE
    rw [hsh]
    rcases ht with rfl | rfl | rfl <;> rfl
  rw [e0] at he
  have hty : ∃ ty, (gtys D)[t - 1]? = some (D.2.1 t, ty) := by
    rcases ht with rfl | rfl | rfl <;> exact ⟨_, rfl⟩
  obtain ⟨ty, hty⟩ := hty
  exact va_alen ok.1 ok.2.1 ok.2.2.2.2.2.1.1 hh.1 q (t - 1) he hty rfl hdg (kk H locs ls ok hl hh hS)
-- the end
theorem g_iret {v : Int32} {ty : FieldType} (hdg : decode cc pc = .ok (.ireturn, 1)) (hr : ret = some ty) (hn : narrow ty (.int v) = .int v) (h : post (some (.int v)) μ) : G l D own cc nL ret d post Γ pc lv [.int v] μ := by
  intro H locs ls ok hl hh hS
  exact W.zret ok.1 ok.2.1 (ok.2.2.2.2.2.2.1.trans hr) hn (fun t ht hW => ⟨⟨_, μ, rfl, h, by rw [ht]; exact hh, gK.warm ht hS hW ok.2.2.2.2.2.1⟩, hS.F ht⟩) hS.2.2 hdg (hlocks := ok.2.2.2.2.2.2.2)
theorem g_lret {v : Int64} (hdg : decode cc pc = .ok (.lreturn, 1)) (hr : ret = some .long) (h : post (some (.long v)) μ) : G l D own cc nL ret d post Γ pc lv [.long v] μ := by
  intro H locs ls ok hl hh hS
  exact W.lret ok.1 ok.2.1 (ok.2.2.2.2.2.2.1.trans hr) (fun t ht hW => ⟨⟨_, μ, rfl, h, by rw [ht]; exact hh, gK.warm ht hS hW ok.2.2.2.2.2.1⟩, hS.F ht⟩) hS.2.2 hdg (hlocks := ok.2.2.2.2.2.2.2)
theorem g_vret (hdg : decode cc pc = .ok (.return_, 1)) (hr : ret = none) (h : post none μ) : G l D own cc nL ret d post Γ pc lv [] μ := by
  intro H locs ls ok hl hh hS
  exact W.vret ok.1 ok.2.1 (ok.2.2.2.2.2.2.1.trans hr) (fun t ht hW => ⟨⟨_, μ, rfl, h, by rw [ht]; exact hh, gK.warm ht hS hW ok.2.2.2.2.2.1⟩, hS.F ht⟩) hS.2.2 hdg (hlocks := ok.2.2.2.2.2.2.2)
theorem g_aret {a : Nat} {C : String} (hdg : decode cc pc = .ok (.areturn, 1)) (hr : ret = some (.object C)) (h : post (some (.ref a)) μ) : G l D own cc nL ret d post Γ pc lv [.ref a] μ := by
  intro H locs ls ok hl hh hS
  exact W.aret ok.1 ok.2.1 (ok.2.2.2.2.2.2.1.trans hr) (Or.inl ⟨C, rfl⟩) (Or.inr ⟨a, rfl⟩) (fun t ht hW => ⟨⟨_, μ, rfl, h, by rw [ht]; exact hh, gK.warm ht hS hW ok.2.2.2.2.2.1⟩, hS.F ht⟩) hS.2.2 hdg (hlocks := ok.2.2.2.2.2.2.2)
end GR2
