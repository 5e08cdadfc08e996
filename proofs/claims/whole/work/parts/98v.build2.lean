/-! a constructor calls a constructor -/
theorem kX.same {D : gD} {A : Nat → Prop} {s U : State} (hvm : s.vm = U.vm) (hU : s.heap = U.heap) (h : kX D A s s.heap) : kX D A U U.heap := by
  have hal : s.vm.Alike U.vm := by rw [hvm]; exact Vm.Alike.refl U.vm
  refine ⟨va_K.moved hal h.1, fun w hw => ?_, va_AO.moved hal h.2.2.1, ?_, h.2.2.2.2.same hvm⟩
  · have h2 := h.2.1 w hw
    simp only [knest, List.mem_cons, List.not_mem_nil, or_false] at hw
    rcases hw with rfl | rfl | rfl | rfl | rfl | rfl <;> exact va_Nw.same rfl hvm h2
  · rw [← hU]
    exact h.2.2.2.1.moved hal
theorem join_last {D : va_G} {cl : List vw_C} {A0 : Nat → Prop} {ws w1 : va_W} {q : Nat} {e0 : va_E} {H H1 : Heap} (hP : va_P D cl (ws ++ [(q, e0)]) H) (hD : va_D A0 (ws ++ [(q, e0)])) (hk : ∀ x : Nat, x < H.size → ¬ va_A [(q, e0)] H.size x → H1[x]? = H[x]?) (hF : ∀ x, va_A [(q, e0)] H.size x → A0 x) (hP1 : va_P D cl w1 H1) (hD1 : va_D (va_A [(q, e0)] H.size) w1) : va_P D cl (ws ++ w1) H1 ∧ va_D A0 (ws ++ w1) := by
  have hlast : (ws ++ [(q, e0)])[ws.length]? = some (q, e0) := by simp
  have hl : ∀ (k : Nat) (x : Nat × va_E), ws[k]? = some x → (ws ++ [(q, e0)])[k]? = some x := fun k x hx => by
    rw [List.getElem?_append_left (List.getElem?_eq_some_iff.mp hx).1]
    exact hx
  have apart : ∀ (k : Nat) (x : Nat × va_E), ws[k]? = some x → x.1 < H.size ∧ ¬ va_A [(q, e0)] H.size x.1 := by
    intro k x hx
    have hlt := (hP k x (hl k x hx)).lt
    refine ⟨hlt, fun h => ?_⟩
    rcases h with ⟨k2, e2, h⟩ | h
    · have hk2 : k2 < 1 := (List.getElem?_eq_some_iff.mp h).1
      rw [show k2 = 0 by omega] at h
      have hxq : x.1 = q := by
        have h9 : (q, e0) = (x.1, e2) := Option.some.inj h
        exact (Prod.mk.inj h9).1.symm
      have hkk := hD.1 k ws.length x (q, e0) (hl k x hx) hlast hxq
      have := (List.getElem?_eq_some_iff.mp hx).1
      omega
    · omega
  refine ⟨va_P.app (fun k x hx => (hP k x (hl k x hx)).kept (hk x.1 (apart k x hx).1 (apart k x hx).2)) hP1, va_D.app ⟨fun i j x y hx hy hxy => hD.1 i j x y (hl i x hx) (hl j y hy) hxy, fun k x hx => hD.2 k x (hl k x hx)⟩ (hD1.weaken (fun k x _ h => hF x.1 h)) (fun i j x y hx hy hxy => ?_)⟩
  exact (apart i x hx).2 (by rw [hxy]; exact hD1.2 j y hy)
theorem kblind {D : gD} {av : List Value} {w0 : va_W} {sz : Nat} : FrameBlind (va_Pc av (fun U => U.heap.size = sz ∧ va_P D.1 vwCl w0 U.heap ∧ va_D (fun _ => True) w0 ∧ kX D (va_A w0 sz) U U.heap)) := fun a U g mk h => ⟨h.1, h.2.1, h.2.2.1, h.2.2.2.1, kX.same (s := U) (U := U.calling g mk a) rfl rfl h.2.2.2.2⟩
section KC
variable {l : Launch} {D : gD} {A : Nat → Prop} {own : String} {cc : ByteArray} {nL : Nat} {R : Room} {mc ms : Nat} {mk : (Nat → Nat) → va_W} {Γ : gC} {kc ks pc : Nat} {lv : List (Nat × Value)} {st : List Value} {ws : va_W}
theorem k_last {q : Nat} {e0 : va_E} {H : Heap} {locs : List Loc} (hP : va_P D.1 vwCl (ws ++ [(q, e0)]) H) (hD : va_D A (ws ++ [(q, e0)])) (hA : ∀ x, Γ.2.2.1.heap.size ≤ x → A x) (hS : va_S A Γ.2.2.1.heap H locs) : va_P D.1 vwCl [(q, e0)] H ∧ va_D A [(q, e0)] ∧ ∀ x, va_A [(q, e0)] H.size x → A x := by
  have hlast : (ws ++ [(q, e0)])[ws.length]? = some (q, e0) := by simp
  have hAq : A q := hD.2 _ _ hlast
  refine ⟨fun k x hx => ?_, ⟨fun i j x y hx hy _ => ?_, fun k x hx => ?_⟩, fun x hx => ?_⟩
  · have hk : k < 1 := (List.getElem?_eq_some_iff.mp hx).1
    rw [show k = 0 by omega] at hx
    cases hx
    exact hP _ _ hlast
  · have hi : i < 1 := (List.getElem?_eq_some_iff.mp hx).1
    have hj : j < 1 := (List.getElem?_eq_some_iff.mp hy).1
    omega
  · have hk : k < 1 := (List.getElem?_eq_some_iff.mp hx).1
    rw [show k = 0 by omega] at hx
    cases hx
    exact hAq
  · rcases hx with ⟨k, e2, hx⟩ | hx
    · have hk : k < 1 := (List.getElem?_eq_some_iff.mp hx).1
      rw [show k = 0 by omega] at hx
      cases hx
      exact hAq
    · exact hA x (Nat.le_trans hS.1 hx)
theorem k_callI {idx n fr' mc' ms' nL' q : Nat} {y : MethodName} {cc' : ByteArray} {As rest : List Value} {e0 : va_E} {mk' : (Nat → Nat) → va_W} (hcode : Cond.code y cc' nL' none ∈ gw) (hyn : y.name = "<init>") (him : Cond.instanceMethod y ∈ gw) (hini : Cond.initialized y.cls ∈ gw) (hlk : Cond.methodLink own idx y ∈ gw) (hnm : gNm y n)
    (hM : ∀ sz, KCt l D fr' mc' ms' y cc' nL' (.ref q :: As) [(q, e0)] mk' sz) (hfr : fr' + 1 ≤ R.frames ∧ 8 + (nL' + 11) + 64 * fr' ≤ R.locals) (hn : As.length = n) (hst : st = As.reverse ++ .ref q :: rest) (hrm : (rest.map fun v => v.category).sum ≤ 8) (hcs : kc + mc' ≤ R.cells ∧ ks + ms' ≤ R.slots) (hdg : decode cc pc = .ok (.invokespecial idx, 3))
    (kk : ∀ ad : Nat → Nat, KG l D A own cc nL R mc ms mk Γ (kc + mc') (ks + ms') (pc + 3) lv rest (ws ++ mk' ad)) : KG l D A own cc nL R mc ms mk Γ kc ks pc lv st (ws ++ [(q, e0)]) := fun H locs ls ok hl hP hD hS => by
  have hts := ok.2.2.2.2.1
  obtain ⟨hPc, hDc, hFc⟩ := k_last (Γ := Γ) hP hD ok.2.2.2.2.2.2.1 hS
  refine va_callv (va_runI (As := As) (rest := rest) (b := q) ⟨ok.1, ok.2.1, ok.2.2.1, ok.2.2.2.1, hts⟩ (hM H.size) ⟨callB_of n hts (gws_in hcode) rfl rfl rfl (hts _ hini) (hts _ hlk) hnm hfr, hyn, hts _ him⟩ ⟨kblind, fun U hU hW => ⟨rfl, by rw [hU], by rw [hU]; exact hPc, hDc.weaken (fun _ _ _ _ => trivial), kX.go (va_AO.moved hW.alike ok.2.2.2.2.2.1.2.2.1) ok.2.2.2.2.2.1 hU hW hS hFc⟩⟩ rfl hn hl.1 hst (lv_room hrm) hdg hcs) hS (fun x _ h => hFc x h) hFc (fun ad t H1 locs1 ht hvm _ hB hz1 hk1 hS1 => ?_)
  obtain ⟨hP1, hD1⟩ := hB
  rw [ht] at hP1
  obtain ⟨hP2, hD2⟩ := join_last hP hD hk1 hFc hP1 hD1
  exact kk ad H1 locs1 ls ok hl hP2 hD2 hS1
theorem k_callIN {idx n fr' mc' ms' nL' q : Nat} {y : MethodName} {cc' : ByteArray} {As rest : List Value} {e0 : va_E} {mk' : (Nat → Nat) → va_W} (hcode : Cond.code y cc' nL' none ∈ gw) (hyn : y.name = "<init>") (him : Cond.instanceMethod y ∈ gw) (hini : Cond.initialized y.cls ∈ gw) (hlk : Cond.methodLinkNest own idx y "WristGoal" ∈ knest) (hnm : gNm y n)
    (hM : ∀ sz, KCt l D fr' mc' ms' y cc' nL' (.ref q :: As) [(q, e0)] mk' sz) (hfr : fr' + 1 ≤ R.frames ∧ 8 + (nL' + 11) + 64 * fr' ≤ R.locals) (hn : As.length = n) (hst : st = As.reverse ++ .ref q :: rest) (hrm : (rest.map fun v => v.category).sum ≤ 8) (hcs : kc + mc' ≤ R.cells ∧ ks + ms' ≤ R.slots) (hdg : decode cc pc = .ok (.invokespecial idx, 3))
    (kk : ∀ ad : Nat → Nat, KG l D A own cc nL R mc ms mk Γ (kc + mc') (ks + ms') (pc + 3) lv rest (ws ++ mk' ad)) : KG l D A own cc nL R mc ms mk Γ kc ks pc lv st (ws ++ [(q, e0)]) := fun H locs ls ok hl hP hD hS => by
  have hts := ok.2.2.2.2.1
  obtain ⟨hPc, hDc, hFc⟩ := k_last (Γ := Γ) hP hD ok.2.2.2.2.2.2.1 hS
  have hB := va_cnB (R := R) (rm := krm fr' mc' ms') (mc := mc') (ms := ms') (host := "WristGoal") n hts (gws_in hcode) rfl rfl rfl (ok.2.2.2.2.2.1.2.1 _ hlk) (hts _ hini) hnm hfr
  refine va_callv (va_runIN (As := As) (rest := rest) (b := q) ⟨ok.1, ok.2.1, ok.2.2.1, ok.2.2.2.1, hts⟩ (hM H.size) ⟨hB, hyn, hts _ him⟩ ⟨kblind, fun U hU hW => ⟨rfl, by rw [hU], by rw [hU]; exact hPc, hDc.weaken (fun _ _ _ _ => trivial), kX.go (va_AO.moved hW.alike ok.2.2.2.2.2.1.2.2.1) ok.2.2.2.2.2.1 hU hW hS hFc⟩⟩ rfl hn hl.1 hst (lv_room hrm) hdg hcs) hS (fun x _ h => hFc x h) hFc (fun ad t H1 locs1 ht hvm _ hB hz1 hk1 hS1 => ?_)
  obtain ⟨hP1, hD1⟩ := hB
  rw [ht] at hP1
  obtain ⟨hP2, hD2⟩ := join_last hP hD hk1 hFc hP1 hD1
  exact kk ad H1 locs1 ls ok hl hP2 hD2 hS1
end KC
