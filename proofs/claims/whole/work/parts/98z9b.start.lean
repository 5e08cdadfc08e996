/-! THE LAW'S START -/
theorem P_rot {D : va_G} {cl : List vw_C} {w9 : va_W} {x : Nat × va_E} {H : Heap} (h : va_P D cl (w9 ++ [x]) H) : va_P D cl (x :: w9) H := by
  intro k q hk
  cases k with
  | zero =>
    cases hk
    exact h w9.length x (by simp)
  | succ k =>
    rw [List.getElem?_cons_succ] at hk
    exact h k q (by rw [List.getElem?_append_left (List.getElem?_eq_some_iff.mp hk).1]; exact hk)
theorem P_left9 {D : va_G} {cl : List vw_C} {w9 w8 : va_W} {H : Heap} (h : va_P D cl (w9 ++ w8) H) : va_P D cl w9 H := fun k q hk => h k q (by rw [List.getElem?_append_left (List.getElem?_eq_some_iff.mp hk).1]; exact hk)
theorem P_last9 {D : va_G} {cl : List vw_C} {w9 : va_W} {x : Nat × va_E} {H : Heap} (h : va_P D cl (w9 ++ [x]) H) : va_P D cl [x] H := by
  intro k q hk
  cases k with
  | zero =>
    cases hk
    exact h w9.length x (by simp)
  | succ k => simp at hk
def ix9 (n : Nat) : Nat → Nat := fun k => match k with | 0 => n | k + 1 => k
theorem rot9 {w9 : va_W} {x : Nat × va_E} {k : Nat} {q : Nat × va_E} (hk : (x :: w9)[k]? = some q) : (w9 ++ [x])[ix9 w9.length k]? = some q ∧ k ≤ w9.length := by
  cases k with
  | zero =>
    cases hk
    exact ⟨by show (w9 ++ [x])[w9.length]? = some x; simp, Nat.zero_le _⟩
  | succ k =>
    rw [List.getElem?_cons_succ] at hk
    have hl := (List.getElem?_eq_some_iff.mp hk).1
    refine ⟨?_, hl⟩
    show (w9 ++ [x])[k]? = some q
    rw [List.getElem?_append_left hl]
    exact hk
theorem ix9_inj {n i j : Nat} (hi : i ≤ n) (hj : j ≤ n) (h : ix9 n i = ix9 n j) : i = j := by
  cases i with
  | zero =>
    cases j with
    | zero => rfl
    | succ j =>
      have h : n = j := h
      omega
  | succ i =>
    cases j with
    | zero =>
      have h : i = n := h
      omega
    | succ j =>
      have h : i = j := h
      omega
theorem D_rot {A : Nat → Prop} {w9 : va_W} {x : Nat × va_E} (h : va_D A (w9 ++ [x])) : va_D A (x :: w9) := by
  refine ⟨fun i j p q hi hj hpq => ?_, fun k q hk => h.2 _ q (rot9 hk).1⟩
  obtain ⟨h1, l1⟩ := rot9 hi
  obtain ⟨h2, l2⟩ := rot9 hj
  exact ix9_inj l1 l2 (h.1 _ _ p q h1 h2 hpq)
theorem gw_dom {D' : gD} {μ : gMem} {k : Nat} {q : Nat × va_E} (h : (gwl D' μ)[k]? = some q) : gdom D' q.1 := by
  obtain ⟨y, hy, rfl⟩ := gzl_at h
  have hm : gcells[k]? = some y.1 := by rw [← gzl_1, List.getElem?_map, hy]; rfl
  exact ⟨y.1.1, y.1.2, gcells_ok hm, rfl⟩
def zz9v : List Value := [.null, .null, .null, .null, .null, .null, .null, .null, .null, .null, .null, .int 0]
set_option maxRecDepth 20000 in
set_option maxHeartbeats 4000000 in
theorem whole_start {p : Program} {e : Env} {s : State} {m : MethodId} {below : List Frame} {meth : Method} {c : Code} (l : Launch) (hlf : l.stackTraces = false) {b L : Nat} {xs : Nat → Int32} (hL : L ≤ 3072) (C0 : lw_At p s m meth c b L xs) : W p l e room_1 s m #[Value.ref b] below meth c s.heap [] 0 0 (lw_Z below #[Value.ref b] s) (entryFrame m ([Value.ref b] : List Value).toArray 7) := by
  obtain ⟨hx, hb, hr, hml, hown, hts, hX, hbl, hlocks, hgv⟩ := id C0
  obtain ⟨D, hlX, hkn, hao, hnc⟩ := first9 hts hgv
  have hgw : ∀ w ∈ gw, w.before #[Value.ref b] s = true := fun w hw => hts w (List.mem_filter.mp hw).1
  have hA : ∀ q : Nat, s.heap.size ≤ q → AL s q := fun _ h => h
  have hS : va_S (AL s) s.heap s.heap [] := va_S.rf
  have hP : va_P D.1 vwCl [] s.heap := fun k q h => by simp at h
  have hD : va_D (AL s) [] := ⟨fun i j p q h => by simp at h, fun k q h => by simp at h⟩
  have hkX : kX D (AL s) s s.heap := ⟨hlX.1, hkn, hao, hlX.2.2.1, hlX.2.2.2.2.1⟩
  have hnX : nXs9 (AL s) s := ⟨hlX.2.1, hlX.2.2.2.1⟩
  have hl := lv_entry ([.ref b]) (n := 7) (Nat.le_of_ble_eq_true rfl)
  rw [lg_entry_eq]
  generalize (lg_sl ([.ref b]) ++ List.replicate (7 - (lg_sl ([.ref b])).length) Slot.unset).toArray = ls at hl ⊢
  have hl : lv_has ls 7 [(0, .ref b)] := hl
  obtain ⟨oo1, oo2, oo3, oo4, oo5, oo6⟩ := ob_9
  refine va_new (ci := 9) (fs := zz9v) (C := gCn 9) (T := gTt 9) (N := (gsh 9).2.2) hx hb hgw oo4 (gtyf 9) oo5 hown (hgw _ (gw_t 24 (by decide +kernel) (by decide +kernel))) (hgw _ (gw_t 25 (by decide +kernel) (by decide +kernel))) (hgw _ (gw_t 1 (by decide +kernel) (by decide +kernel))) hlX.1 hP hD hS hA oo3 (by decide) (by decide) (by decide) dL_law_0 (fun q9 H hP hD hS => ?_)
  have hP : va_P D.1 vwCl [(q9, .inr (9, zz9v))] H := hP
  have hD : va_D (AL s) [(q9, .inr (9, zz9v))] := hD
  refine lv_dup hx hb dL_law_3 rfl ?_
  have hFc : ∀ x, va_A [(q9, .inr (9, zz9v))] H.size x → AL s x := va_free (wc := [(q9, .inr (9, zz9v))]) hD hS hA [0] rfl
  have hB9 : CallB room_1 s #[Value.ref b] RL 17 yX9_init cX9_init 1 none (gws yX9_init cX9_init 1 none) (krm 7 92 2019) 92 2019 0 := callB_of 0 hgw (gws_in co_X9_init) rfl rfl rfl (hgw _ (gw_t 1 (by decide +kernel) (by decide +kernel))) (hgw _ (gw_t 26 (by decide +kernel) (by decide +kernel))) ⟨by decide +kernel, by decide +kernel, by decide +kernel⟩ ⟨by decide, by decide⟩
  refine va_callv (va_runI (As := []) (rest := [.ref q9]) (b := q9) ⟨hx, hb, hml, hown, hgw⟩ (k_X9_init (fun q sz => k_X6_init q sz) q9 H.size) ⟨hB9, rfl, (hgw _ (gw_t 27 (by decide +kernel) (by decide +kernel)))⟩ ⟨kblind, fun U hU hW => ⟨rfl, by rw [hU], by rw [hU]; exact hP, hD.weaken (fun _ _ _ _ => trivial), kX.go (va_AO.moved hW.alike hao) hkX hU hW hS hFc⟩⟩ rfl rfl hl.1 rfl (lv_room (Nat.le_of_ble_eq_true rfl)) dL_law_4 ⟨by decide, by decide⟩) hS (fun x _ h => hFc x h) hFc (fun a9 t H1 locs1 ht hvm _ hB hz1 hk1 hS1 => ?_)
  obtain ⟨hP1, hD1⟩ := hB
  rw [ht] at hP1
  have hD1 : va_D (AL s) (mkX9 D q9 a9) := hD1.weaken (fun _ x _ h => hFc x.1 h)
  refine lv_astore_n (lv' := [(1, .ref q9), (0, .ref b)]) hx hb dL_law_7 rfl hl (by decide) rfl (fun ls hl => ?_)
  obtain ⟨pp1, pp2, pp3, pp4, pp5, pp6⟩ := ob_10
  refine va_new (ci := 10) (fs := zz10v) (C := gCn 10) (T := gTt 10) (N := (gsh 10).2.2) hx hb hgw pp4 (gtyf 10) pp5 hown (hgw _ (gw_t 1200 (by decide +kernel) (by decide +kernel))) (hgw _ (gw_t 1201 (by decide +kernel) (by decide +kernel))) (hgw _ (gw_t 15 (by decide +kernel) (by decide +kernel))) hlX.1 hP1 hD1 hS1 hA pp3 (by decide +kernel) (by decide) (by decide) dL_law_8 (fun q10 H2 hP2 hD2 hS2 => ?_)
  refine lv_dup hx hb dL_law_11 rfl ?_
  have hP3 : va_P D.1 vwCl (w10 D q9 q10 a9) H2 := P_rot hP2
  have hD3 : va_D (AL s) (w10 D q9 q10 a9) := D_rot hD2
  have hF3 : ∀ x, va_A (w10 D q9 q10 a9) H2.size x → AL s x := by
    rintro x (⟨k, e9, h⟩ | h)
    · exact hD3.2 k _ h
    · exact hA x (Nat.le_trans hS2.1 h)
  have hB10 : CallB room_1 s #[Value.ref b] RL 20 yX10_init cX10_init 1 none (gws yX10_init cX10_init 1 none) (krm 6 40 3425) 40 3425 0 := callB_of 0 hgw (gws_in co_X10_init) rfl rfl rfl (hgw _ (gw_t 15 (by decide +kernel) (by decide +kernel))) (hgw _ (gw_t 1202 (by decide +kernel) (by decide +kernel))) ⟨by decide +kernel, by decide +kernel, by decide +kernel⟩ ⟨by decide, by decide⟩
  refine va_callv (va_runI (As := []) (rest := [.ref q10]) (b := q10) ⟨hx, hb, hml, hown, hgw⟩ (k_X10_init (D := D) (c := q9) (m := q10) (a9 := a9) H2.size) ⟨hB10, rfl, (hgw _ (gw_t 1203 (by decide +kernel) (by decide +kernel)))⟩ ⟨k10blind, fun U hU hW => ⟨rfl, by rw [hU], by rw [hU]; exact hP3, hD3.weaken (fun _ _ _ _ => trivial), kX.go (va_AO.moved hW.alike hao) hkX hU hW hS2 hF3, hnX.go hU hW hS2 hF3⟩⟩ rfl rfl hl.1 rfl (lv_room (Nat.le_of_ble_eq_true rfl)) dL_law_12 ⟨by decide, by decide⟩) hS2 (fun x _ h => hF3 x h) hF3 (fun a10 t2 H3 locs3 ht2 hvm2 _ hBB _ _ hS3 => ?_)
  obtain ⟨hP4, hD4⟩ := hBB
  rw [ht2] at hP4
  have hDA : ∀ q, gdom (dOf D q9 q10 a9 a10) q → AL s q := by
    rintro q ⟨k, i, hi, rfl⟩
    obtain ⟨n, hn⟩ := gpos hi
    exact hF3 _ (hD4.2 n _ (gat hn))
  have hD5 : va_D (AL s) (gwl (dOf D q9 q10 a9 a10) (mst mu0 0)) := hD4.weaken (fun _ x _ h => hF3 x.1 h)
  refine lv_astore_n (lv' := [(2, .ref q10), (1, .ref q9), (0, .ref b)]) hx hb dL_law_15 rfl hl (by decide) rfl (fun ls hl => ?_)
  refine lv_iconst (v := 1) hx hb dL_law_16 (by decide) ?_
  refine va_newa (ty := .long) (a0 := (1, .inr (.inl (fun _ => 0)))) hx hb (hgw _ (gw_t 228 (by decide +kernel) (by decide +kernel))) rfl hlX.1 hP4 hD5 hS3 hA (fun _ => rfl) (by decide) (by decide) (by decide) (by decide) (by decide) dL_law_17 (fun o cA H4 hK4 hP6 hD6 hS4 => ?_)
  have hcA : cA = D.2.1 4 := ra_long (hK4.2 5 (cA, .long) rfl).2 (hlX.1.2 3 _ rfl).2
  subst hcA
  refine lv_astore_n (lv' := [(3, .ref o), (2, .ref q10), (1, .ref q9), (0, .ref b)]) hx hb dL_law_19 rfl hl (by decide) rfl (fun ls hl => ?_)
  refine lv_iconst (v := 0) hx hb dL_law_20 (by decide) ?_
  refine lv_istore (lv' := [(4, .int 0), (3, .ref o), (2, .ref q10), (1, .ref q9), (0, .ref b)]) hx hb dL_law_21 hl (by decide) rfl (fun ls hl => ?_)
  refine W.widen (k := 135 + 0 * 1) (n := 5520 + 0 * 6) (by decide) (by decide) ?_
  have hlast : (gwl (dOf D q9 q10 a9 a10) (mst mu0 0) ++ [(o, .inl (D.2.1 4, (1, .inr (.inl (fun _ => 0)))))])[(gwl (dOf D q9 q10 a9 a10) (mst mu0 0)).length]? = some (o, .inl (D.2.1 4, (1, .inr (.inl (fun _ => 0))))) := by simp
  have hno : ¬ gdom (dOf D q9 q10 a9 a10) o := by
    rintro ⟨k, i, hi, ho⟩
    obtain ⟨n, hn⟩ := gpos hi
    have h1 := gat (D := dOf D q9 q10 a9 a10) (μ := mst mu0 0) hn
    have hl1 := (List.getElem?_eq_some_iff.mp h1).1
    have h2 := hD6.1 n _ _ _ (by rw [List.getElem?_append_left hl1]; exact h1) hlast ho.symm
    omega
  exact l_loop (D := dOf D q9 q10 a9 a10) (o := o) (b := b) (xs := xs) (Γ := (p, e, s, m, below, meth, c)) (kz := 135) (sz := 5520) hL (l_man hlf hnc) (by decide) (by decide) 512 0 (mst mu0 0) (fun _ => 0) (by omega) (Nat.zero_le _) sg0_inv H4 _ ls ⟨C0, hL, ⟨hlX.1, hlX.2.1, hlX.2.2.1, hlX.2.2.2.1, hlX.2.2.2.2.1, hlX.2.2.2.2.2⟩, hDA, hno, hD6.2 _ _ hlast⟩ (lv_sub hl [0, 4, 3, 2, 1] rfl) ⟨⟨P_left9 hP6, hD5.1, fun k q hk => gw_dom hk⟩, P_last9 hP6⟩ hS4
