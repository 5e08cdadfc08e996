/-! the reference's constructor: its call of begins, its contract -/
def nXs9 (A : Nat → Prop) (U : State) : Prop := (∀ w ∈ gnest, va_Nw w U) ∧ tXs A U U.heap
theorem nXs9.same {A : Nat → Prop} {s U : State} (hvm : s.vm = U.vm) (hU : s.heap = U.heap) (h : nXs9 A s) : nXs9 A U := by
  have hal : s.vm.Alike U.vm := by rw [hvm]; exact Vm.Alike.refl U.vm
  refine ⟨fun w hw => ?_, ?_⟩
  · have h2 := h.1 w hw
    simp only [gnest, List.mem_cons, List.not_mem_nil, or_false] at hw
    rcases hw with rfl | rfl | rfl | rfl | rfl <;> exact va_Nw.same rfl hvm h2
  · rw [← hU]
    exact h.2.moved hal
theorem nXs9.go {A B : Nat → Prop} {s U : State} {H : Heap} {locs : List Loc} (h : nXs9 A s) (hU : U.heap = H) (hW : s.WarmedH U.vm) (hS : va_S A s.heap H locs) (hAB : ∀ q, B q → A q) : nXs9 B U := by
  refine ⟨fun w hw => ?_, ?_⟩
  · have h2 := h.1 w hw
    simp only [gnest, List.mem_cons, List.not_mem_nil, or_false] at hw
    rcases hw with rfl | rfl | rfl | rfl | rfl <;> exact va_Nw.warmM hW h2
  · rw [hU]
    exact ((h.2.moved hW.alike).kept hS.2.1).narrow hAB
section BEG
variable {l : Launch} {D : gD} {A : Nat → Prop} {Γ : gC} {c m : Nat} {a9 a10 : Nat → Nat}
theorem gk_fst {s U : State} {H : Heap} {locs : List Loc} (hk : kX D A s s.heap) (hn : nXs9 A s) (hDA : ∀ q, gdom (dOf D c m a9 a10) q → A q) (hU : U.heap = H) (hS : va_S A s.heap H locs) (hW : s.WarmedH U.vm) : gK (dOf D c m a9 a10) U := by
  have h9 := hn.go hU hW hS hDA
  refine ⟨va_K.moved hW.alike hk.1, h9.1, ?_, h9.2, hk.2.2.2.2.warm hW⟩
  rw [hU]
  exact ((hk.2.2.2.1.moved hW.alike).kept hS.2.1).narrow hDA
theorem k_X10_b (hn : nXs9 A Γ.2.2.1) (ad : Nat → Nat) : KG l D A RX10 cX10_init 1 (krm 6 40 3425) 40 3425 (fun ad => gwl (dOf D c m a9 ad) (mst mu0 0)) Γ 40 3425 439 (lv_args 0 [.ref m]) [] (mk10a D m (mkX9 D c a9) ad) := by
  refine k_aload_n (x := m) dX10_init_439 rfl ?_
  rw [fl9_eq]
  intro H locs ls ok hl hP hD hS
  have hts := ok.2.2.2.2.1
  have hh : ghold (dOf D c m a9 ad) mu0 H := hold_cel (A := A) okcel_all hP hD
  have hDA : ∀ q, gdom (dOf D c m a9 ad) q → A q := gdom_cel (μ := mu0) okcel_all hD
  obtain ⟨ww1, ww2, ww3, ww4, ww5, ww6, ww7⟩ := ca_X10_142
  have hB : CallW (krm 6 40 3425) Γ.2.2.1 Γ.2.2.2.2.1 RX10 (gCn 10) 142 yX10_begins cX10_begins 1 none (gws yX10_begins cX10_begins 1 none) (grm 1) 0 0 0 := ⟨callB_of 0 hts (gws_in ww1) rfl rfl rfl (hts _ (by rw [ww6]; exact ww5)) (hts _ ww2) ww7 ⟨by decide, by decide⟩, hts _ ww3, hts _ ww4⟩
  obtain ⟨q, hq⟩ := gpos (k := 10) (i := 0) (by decide)
  have he := gat (D := dOf D c m a9 ad) (μ := mu0) hq
  have ee1 : gE (dOf D c m a9 ad) mu0.2.2 (mu0.1 10 0) (mu0.2.1 10 0) 10 0 = .inr (10, (List.range (gsh 10).2.2).map (gsv (dOf D c m a9 ad) mu0.2.2 (mu0.1 10 0) (mu0.2.1 10 0) 10 0)) := rfl
  rw [ee1] at he
  refine l_run (D := dOf D c m a9 ad) (A := A) (wo := []) (post' := pV (fun μ' => μ' = mst mu0 0)) (va_runV (As := []) (rest := []) (b := (dOf D c m a9 ad).2.2 10 0) ⟨ok.1, ok.2.1, ok.2.2.1, ok.2.2.2.1, hts⟩ (c_X10_begins (D := dOf D c m a9 ad) (d := 1) (by omega)) hB ⟨gblind, va_recv ok.2.2.2.2.2.1.1 hh.1 (ci := 10) (q0 := q) ob_10.2.2.1 he, fun U hU hW => ⟨rfl, by rw [hU]; exact hh, gk_fst ok.2.2.2.2.2.1 hn hDA hU hS hW⟩⟩ rfl rfl hl.1 rfl (lv_room (Nat.le_of_ble_eq_true rfl)) dX10_init_440 ⟨by decide, by decide⟩) hS hDA (fun k q h => by simp at h) (fun k q h => by simp at h) (fun r μ' H1 locs1 hp hh1 _ hS1 => ?_)
  obtain ⟨rfl, rfl⟩ := hp
  exact W.vret ok.1 ok.2.1 ok.2.2.2.2.2.2.2.2.1 (fun t ht hW => ⟨⟨ad, rfl, trivial, by rw [ht]; exact hh1.1, hh1.2.weaken (fun _ x _ h => hDA x.1 h)⟩, hS1.F ht⟩) hS1.2.2 dX10_init_443 (hlocks := ok.2.2.2.2.2.2.2.2.2)
def w10 (D : gD) (c m : Nat) (a9 : Nat → Nat) : va_W := (m, .inr (10, zz10v)) :: mkX9 D c a9
def p10 (D : gD) (c m : Nat) (a9 : Nat → Nat) (sz : Nat) (U : State) : Prop := U.heap.size = sz ∧ va_P D.1 vwCl (w10 D c m a9) U.heap ∧ va_D (fun _ => True) (w10 D c m a9) ∧ kX D (va_A (w10 D c m a9) sz) U U.heap ∧ nXs9 (va_A (w10 D c m a9) sz) U
theorem k10blind {av : List Value} {sz : Nat} : FrameBlind (va_Pc av (p10 D c m a9 sz)) := fun a U g mk h => ⟨h.1, h.2.1, h.2.2.1, h.2.2.2.1, kX.same (s := U) (U := U.calling g mk a) rfl rfl h.2.2.2.2.1, nXs9.same (s := U) (U := U.calling g mk a) rfl rfl h.2.2.2.2.2⟩
theorem k_X10_init (sz : Nat) : Met l yX10_init (gws yX10_init cX10_init 1 none) (krm 6 40 3425) (va_Pc [.ref m] (p10 D c m a9 sz)) (kQ D (va_A (w10 D c m a9) sz) (fun ad => gwl (dOf D c m a9 ad) (mst mu0 0))) 40 3425 (va_A (w10 D c m a9) sz) := by
  refine Met.ofW (cc := cX10_init) (maxL := 1) (ret := none) (by decide) rfl ?_
  intro p e s m9 args below meth cd s₁ B hml hv
  obtain ⟨rfl, hsz, hP, hD, hk, hn⟩ := hv
  have hts := atoms_spec (ws := gws yX10_init cX10_init 1 none) B.pre
  have hf : s.vm.findClass RX10 = some m9.cls := findClass_of_methodNamed B.named
  have hin : meth.name = "<init>" := (name_of_methodNamed B.named B.method).1
  rw [lg_entry_eq]
  exact k_X10_a (Γ := (p, e, s, m9, [Value.ref m].toArray, below, meth, cd)) m (mkX9 D c a9) (fun ad => k_X10_b hn ad) s.heap [] _ ⟨B.exec, B.bytes, hml, hf, fun w hw => hts w (List.mem_cons_of_mem _ hw), hk, fun q hq => Or.inr (by rw [← hsz]; exact hq), hin, B.returns, B.notSynchronized⟩ (lv_entry [.ref m] (Nat.le_of_ble_eq_true rfl)) hP hD.self va_S.rf
end BEG
