/-! STRINGS: contracts of the JDK's own members over the one text; they leave the heap as it is -/
theorem fl_J0_38 : Cond.fieldLink RJ0 38 "java/lang/String" "COMPACT_STRINGS" "Z" ∈ gw := gw_t 47 (by decide +kernel) (by decide +kernel)
theorem fl_J0_1053 : Cond.fieldLink RJ0 1053 "jdk/internal/util/Preconditions" "SIOOBE_FORMATTER" "Ljava/util/function/BiFunction;" ∈ gw := gw_t 63 (by decide +kernel) (by decide +kernel)
theorem fl_J0_9 : Cond.fieldLink RJ0 9 "java/lang/String" "value" "[B" ∈ gw := gw_t 1829 (by decide +kernel) (by decide +kernel)
theorem fl_J0_15 : Cond.fieldLink RJ0 15 "java/lang/String" "coder" "B" ∈ gw := gw_t 1830 (by decide +kernel) (by decide +kernel)
def sQ (post : Option Value → Prop) : Array Value → State → Outcome → State → Prop := fun _ st oc t => (∃ r : Option Value, oc = .returned r ∧ post r) ∧ t.heap = st.heap
def noA : Nat → Prop := fun _ => False
def srm (j : Nat) : Room := { frames := j, cells := 0, slots := 0, locals := 64 * j }
theorem srm_ok {j j' nL' : Nat} (hd : j' < j) (hn : nL' ≤ 45) : (srm j').frames + 1 ≤ (srm j).frames ∧ 8 + (nL' + 11) + (srm j').locals ≤ (srm j).locals := by
  refine ⟨hd, ?_⟩
  show 8 + (nL' + 11) + 64 * j' ≤ 64 * j
  omega
def SCt (l : Launch) (d : Nat) (y : MethodName) (cc : ByteArray) (nL : Nat) (ret : Option FieldType) (av : List Value) (aK aV : Nat) (post : Option Value → Prop) : Prop := Met l y (gws y cc nL ret) (srm d) (va_Pc av (fun U => sXs noA aK aV U U.heap)) (sQ post) 0 0 noA
def sOkk (own : String) (cc : ByteArray) (nL : Nat) (ret : Option FieldType) (aK aV : Nat) (Γ : gC) : Prop := Γ.1.tables.exec = Jvm.exec ∧ Γ.2.2.2.2.2.2.2.code = cc ∧ Γ.2.2.2.2.2.2.2.maxLocals = nL ∧ Γ.2.2.1.vm.findClass own = some Γ.2.2.2.1.cls ∧ (∀ w ∈ gw, w.before Γ.2.2.2.2.1 Γ.2.2.1 = true) ∧ sXs noA aK aV Γ.2.2.1 Γ.2.2.1.heap ∧ Γ.2.2.2.2.2.2.1.sig.returnType = ret ∧ Γ.2.2.2.2.2.2.1.locks = false
def SGo (l : Launch) (own : String) (cc : ByteArray) (nL : Nat) (ret : Option FieldType) (d aK aV : Nat) (post : Option Value → Prop) (Γ : gC) (pc : Nat) (lv : List (Nat × Value)) (st : List Value) : Prop := ∀ ls : Array Slot, sOkk own cc nL ret aK aV Γ → lv_has ls nL lv → W Γ.1 l Γ.2.1 (srm d) Γ.2.2.1 Γ.2.2.2.1 Γ.2.2.2.2.1 Γ.2.2.2.2.2.1 Γ.2.2.2.2.2.2.1 Γ.2.2.2.2.2.2.2 Γ.2.2.1.heap [] 0 0 (MQ Γ.2.2.2.2.2.1 (sQ post) Γ.2.2.2.2.1 Γ.2.2.1 0 0 noA) (F0 Γ.2.2.2.1 pc ls st)
theorem sblind {av : List Value} {aK aV : Nat} : FrameBlind (va_Pc av (fun U => sXs noA aK aV U U.heap)) := fun a U g mk h => ⟨h.1, sXs.moved (u := U) (U := U.calling g mk a) (Vm.Alike.refl U.vm) h.2⟩
theorem s_run {p : Program} {l : Launch} {e : Env} {R : Room} {s : State} {m : MethodId} {args : Array Value} {below : List Frame} {meth : Method} {c : Code} {H : Heap} {locs : List Loc} {cells slots pc : Nat} {Q : State → Prop} {ls : Array Slot} {rest st0 : List Value} {av : Array Value} {post' : Option Value → Prop}
    (hr : va_Run p l e R s m args below meth c H locs cells slots 0 0 (F0 m pc ls st0) rest (sQ post' av) noA)
    (kk : ∀ r : Option Value, post' r → W p l e R s m args below meth c H locs cells slots Q (F0 m (pc + 3) ls (r.toList ++ rest))) : W p l e R s m args below meth c H locs cells slots Q (F0 m pc ls st0) := by
  intro T hT X
  obtain ⟨v, st₀, t, T', Lx, hh0, X', hLx, ee1, -, ⟨⟨r, hv, hp⟩, hh⟩, stp⟩ := hr T hT X
  cases hv
  obtain ⟨t2, ha1, hb1⟩ := kk v hp T' (by rw [ee1, hh, hh0]) (Stand.forget X' (fun q h => (hLx q h).elim))
  exact ⟨t2, stp t2 ha1, hb1⟩
section STR
variable {l : Launch} {own : String} {cc : ByteArray} {nL d aK aV : Nat} {ret : Option FieldType} {post : Option Value → Prop} {Γ : gC} {pc : Nat} {lv : List (Nat × Value)} {st : List Value}
theorem SCt_of {y : MethodName} {av : List Value} (hown : y.cls = own) (hy : plainName y.cls = true) (hlen : (lg_sl av).length ≤ nL) (body : ∀ Γ : gC, SGo l own cc nL ret d aK aV post Γ 0 (lv_args 0 av) []) : SCt l d y cc nL ret av aK aV post := by
  refine Met.ofW (cc := cc) (maxL := nL) (ret := ret) hy rfl ?_
  intro p e s m args below meth c s₁ B hml hv
  obtain ⟨rfl, hk⟩ := hv
  have hts := atoms_spec (ws := gws y cc nL ret) B.pre
  have hn : s.vm.findClass own = some m.cls := by rw [← hown]; exact findClass_of_methodNamed B.named
  rw [lg_entry_eq]
  exact body (p, e, s, m, av.toArray, below, meth, c) _ ⟨B.exec, B.bytes, hml, hn, fun w hw => hts w (List.mem_cons_of_mem _ hw), hk, B.returns, B.notSynchronized⟩ (lv_entry av hlen)
theorem s_callS {idx n d' nL' : Nat} {y : MethodName} {cc' : ByteArray} {ret' : Option FieldType} {As rest : List Value} {post' : Option Value → Prop} (hL : gLS own idx y cc' nL' ret' n) (hc : SCt l d' y cc' nL' ret' As aK aV post') (hd : d' < d) (hnL : nL' ≤ 45) (hn : As.length = n) (hst : st = As.reverse ++ rest) (hrm : (rest.map fun v => v.category).sum ≤ 8) (hdg : decode cc pc = .ok (.invokestatic idx, 3)) (kk : ∀ r : Option Value, post' r → SGo l own cc nL ret d aK aV post Γ (pc + 3) lv (r.toList ++ rest)) : SGo l own cc nL ret d aK aV post Γ pc lv st := by
  intro ls ok hl
  obtain ⟨ha, hb, hcc, he, hf⟩ := hL
  have hB : CallB (srm d) Γ.2.2.1 Γ.2.2.2.2.1 own idx y cc' nL' ret' (gws y cc' nL' ret') (srm d') 0 0 n := callB_of n ok.2.2.2.2.1 (gws_in ha) rfl rfl rfl (ok.2.2.2.2.1 _ he) (ok.2.2.2.2.1 _ hb) hf (srm_ok hd hnL)
  exact s_run (va_runS (As := As) (rest := rest) ⟨ok.1, ok.2.1, ok.2.2.1, ok.2.2.2.1, ok.2.2.2.2.1⟩ hc ⟨hB, ok.2.2.2.2.1 _ hcc⟩ ⟨sblind, fun U hU hW => ⟨rfl, by show sXs noA aK aV U U.heap; rw [hU]; exact ok.2.2.2.2.2.1.moved hW.alike⟩⟩ rfl hn hl.1 hst (lv_room hrm) hdg ⟨Nat.zero_le _, Nat.zero_le _⟩) (fun r hp => kk r hp ls ok hl)
theorem s_callV {idx n d' nL' : Nat} {y : MethodName} {cc' : ByteArray} {ret' : Option FieldType} {As rest : List Value} {post' : Option Value → Prop} (hL : gLV own idx RJ0 y cc' nL' ret' n) (hc : SCt l d' y cc' nL' ret' (.ref aK :: As) aK aV post') (hd : d' < d) (hnL : nL' ≤ 45) (hn : As.length = n) (hst : st = As.reverse ++ .ref aK :: rest) (hrm : (rest.map fun v => v.category).sum ≤ 8) (hdg : decode cc pc = .ok (.invokevirtual idx, 3)) (kk : ∀ r : Option Value, post' r → SGo l own cc nL ret d aK aV post Γ (pc + 3) lv (r.toList ++ rest)) : SGo l own cc nL ret d aK aV post Γ pc lv st := by
  intro ls ok hl
  obtain ⟨h1, h2, h3, h4, h5, h6, h7⟩ := hL
  have hB : CallW (srm d) Γ.2.2.1 Γ.2.2.2.2.1 own RJ0 idx y cc' nL' ret' (gws y cc' nL' ret') (srm d') 0 0 n := ⟨callB_of n ok.2.2.2.2.1 (gws_in h1) rfl rfl rfl (ok.2.2.2.2.1 _ (by rw [h6]; exact h5)) (ok.2.2.2.2.1 _ h2) h7 (srm_ok hd hnL), ok.2.2.2.2.1 _ h3, ok.2.2.2.2.1 _ h4⟩
  exact s_run (va_runV (As := As) (rest := rest) (b := aK) ⟨ok.1, ok.2.1, ok.2.2.1, ok.2.2.2.1, ok.2.2.2.2.1⟩ hc hB ⟨sblind, vk_recv (i := 0) ok.2.2.2.2.2.1.1 (by decide) va_S.rf, fun U hU hW => ⟨rfl, by show sXs noA aK aV U U.heap; rw [hU]; exact ok.2.2.2.2.2.1.moved hW.alike⟩⟩ rfl hn hl.1 hst (lv_room hrm) hdg ⟨Nat.zero_le _, Nat.zero_le _⟩) (fun r hp => kk r hp ls ok hl)
theorem noL {free : Addr → Prop} : ∀ q ∈ ([] : List Loc), free q.base := fun q hq => absurd hq List.not_mem_nil
theorem cS_ci3 {a b : Int32} {fv : Value} (hfv : fv = .null ∨ ∃ t, fv = .ref t) (h0 : ¬ a < 0) (h1 : a < b) : SCt l d yJ3_checkIndex_8e157 cJ3_checkIndex_8e157 3 (some .int) [.int a, .int b, fv] aK aV (fun r => r = some (.int a)) := by
  have hlen : (lg_sl [.int a, .int b, fv]).length ≤ 3 := by rcases hfv with rfl | ⟨t, rfl⟩ <;> exact Nat.le_of_ble_eq_true rfl
  refine SCt_of rfl (by decide) hlen (fun Γ ls ok hl => ?_)
  have hl0 : ls[0]? = some (.val (.int a)) := lv_at hl 0 rfl
  have hl1 : ls[1]? = some (.val (.int b)) := lv_at hl 1 rfl
  refine lv_iload_n ok.1 ok.2.1 dJ3_checkIndex_8e157_0 rfl hl0 ?_
  refine lv_if_lt ok.1 ok.2.1 dJ3_checkIndex_8e157_1 (tgt := 9) rfl (fun h => absurd h h0) (fun _ => ?_)
  refine lv_iload_n ok.1 ok.2.1 dJ3_checkIndex_8e157_4 rfl hl0 ?_
  refine lv_iload_n ok.1 ok.2.1 dJ3_checkIndex_8e157_5 rfl hl1 ?_
  refine lv_icmp_lt ok.1 ok.2.1 dJ3_checkIndex_8e157_6 (tgt := 16) rfl (fun _ => ?_) (fun h => absurd h1 h)
  refine lv_iload_n ok.1 ok.2.1 dJ3_checkIndex_8e157_16 rfl hl0 ?_
  exact W.iret ok.1 ok.2.1 ok.2.2.2.2.2.2.1 (fun t ht hW => ⟨⟨_, rfl, rfl⟩, ht⟩) noL dJ3_checkIndex_8e157_17 (hlocks := ok.2.2.2.2.2.2.2)
theorem cS_ci2 {a b : Int32} (hd : 1 ≤ d) (h0 : ¬ a < 0) (h1 : a < b) : SCt l d yJ0_checkIndex_df160 cJ0_checkIndex_df160 2 none [.int a, .int b] aK aV (fun r => r = none) := by
  refine SCt_of rfl (by decide) (Nat.le_of_ble_eq_true rfl) (fun Γ ls ok hl => ?_)
  have hl : lv_has ls 2 [(0, .int a), (1, .int b)] := hl
  refine lv_iload_n ok.1 ok.2.1 dJ0_checkIndex_df160_0 rfl (lv_at hl 0 rfl) ?_
  refine lv_iload_n ok.1 ok.2.1 dJ0_checkIndex_df160_1 rfl (lv_at hl 1 rfl) ?_
  have go : ∀ fv : Value, (fv = .null ∨ ∃ t, fv = .ref t) → va_Z "jdk/internal/util/Preconditions" "SIOOBE_FORMATTER" "Ljava/util/function/BiFunction;" fv noA Γ.2.2.1 Γ.2.2.1.heap → W Γ.1 l Γ.2.1 (srm d) Γ.2.2.1 Γ.2.2.2.1 Γ.2.2.2.2.1 Γ.2.2.2.2.2.1 Γ.2.2.2.2.2.2.1 Γ.2.2.2.2.2.2.2 Γ.2.2.1.heap [] 0 0 (MQ Γ.2.2.2.2.2.1 (sQ (fun r => r = none)) Γ.2.2.2.2.1 Γ.2.2.1 0 0 noA) (F0 Γ.2.2.2.1 2 ls [.int b, .int a]) := by
    intro fv hfv hz
    refine va_gets ok.1 ok.2.1 hz va_S.rf ok.2.2.2.1 (ok.2.2.2.2.1 _ fl_J0_1053) (fun _ h => h) dJ0_checkIndex_df160_2 ?_
    refine s_callS (As := [.int a, .int b, fv]) (rest := []) ca_J0_1059 (cS_ci3 (d := 0) hfv h0 h1) (by omega) (by decide) rfl rfl (by decide) dJ0_checkIndex_df160_5 (fun r hr => ?_) ls ok hl
    subst hr
    intro ls ok hl
    refine lv_pop ok.1 ok.2.1 dJ0_checkIndex_df160_8 rfl ?_
    exact W.vret ok.1 ok.2.1 ok.2.2.2.2.2.2.1 (fun t ht hW => ⟨⟨_, rfl, rfl⟩, ht⟩) noL dJ0_checkIndex_df160_9 (hlocks := ok.2.2.2.2.2.2.2)
  rcases ok.2.2.2.2.2.1.2.2 with hz | ⟨t, hz⟩
  · exact go _ (Or.inl rfl) hz
  · exact go _ (Or.inr ⟨t, rfl⟩) hz
/-- the char at k -/
def sCh (k : Nat) : Int32 := gSb.getD k 0
theorem sCh_all : ∀ k, k < 100 → (((sCh k &&& 255).toUInt32 % 65536).toInt32 = sCh k ∧ narrow .char (.int (sCh k)) = .int (sCh k)) := by decide +kernel
theorem cS_ch1 {k : Nat} (hd : 2 ≤ d) (hk : k < 100) : SCt l d yJ1_charAt_3b067 cJ1_charAt_3b067 2 (some .char) [.ref aV, .int (nI k)] aK aV (fun r => r = some (.int (sCh k))) := by
  refine SCt_of rfl (by decide) (Nat.le_of_ble_eq_true rfl) (fun Γ ls ok hl => ?_)
  have hl : lv_has ls 2 [(0, .ref aV), (1, .int (nI k))] := hl
  have hT : va_T .byte aV 100 (fun j => .int (sCh j)) noA Γ.2.2.1 Γ.2.2.1.heap := (ok.2.2.2.2.2.1.1.1 0 (by decide)).2.2.2
  refine lv_iload_n ok.1 ok.2.1 dJ1_charAt_3b067_0 rfl (lv_at hl 1 rfl) ?_
  refine lv_aload_n ok.1 ok.2.1 dJ1_charAt_3b067_1 rfl (lv_at hl 0 rfl) ?_
  refine va_tlen ok.1 ok.2.1 hT va_S.rf (v := nI 100) rfl dJ1_charAt_3b067_2 ?_
  refine s_callS (As := [.int (nI k), .int (nI 100)]) (rest := []) ca_J1_9 (cS_ci2 (d := 1) (by omega) (nI_pos (by omega)) (nI_lt hk (by omega))) (by omega) (by decide) rfl rfl (by decide) dJ1_charAt_3b067_3 (fun r hr => ?_) ls ok hl
  subst hr
  intro ls ok hl
  refine lv_aload_n ok.1 ok.2.1 dJ1_charAt_3b067_6 rfl (lv_at hl 0 rfl) ?_
  refine lv_iload_n ok.1 ok.2.1 dJ1_charAt_3b067_7 rfl (lv_at hl 1 rfl) ?_
  refine va_tb ok.1 ok.2.1 hT va_S.rf (vp_in_nI hk (by decide)) (v := .int (sCh k)) (by rw [nI_clamp (by omega)]) dJ1_charAt_3b067_8 ?_
  refine lv_sipush ok.1 ok.2.1 dJ1_charAt_3b067_9 (v := 255) (by decide) ?_
  refine lv_iand ok.1 ok.2.1 dJ1_charAt_3b067_12 ?_
  refine lv_i2c ok.1 ok.2.1 dJ1_charAt_3b067_13 (sCh_all k hk).1 ?_
  exact W.zret ok.1 ok.2.1 ok.2.2.2.2.2.2.1 (sCh_all k hk).2 (fun t ht hW => ⟨⟨_, rfl, rfl⟩, ht⟩) noL dJ1_charAt_3b067_14 (hlocks := ok.2.2.2.2.2.2.2)
theorem cS_lat : SCt l d yJ0_isLatin1_aae02 cJ0_isLatin1_aae02 1 (some .boolean) [.ref aK] aK aV (fun r => r = some (.int 1)) := by
  refine SCt_of rfl (by decide) (Nat.le_of_ble_eq_true rfl) (fun Γ ls ok hl => ?_)
  have hl : lv_has ls 1 [(0, .ref aK)] := hl
  refine va_gets ok.1 ok.2.1 ok.2.2.2.2.2.1.2.1 va_S.rf ok.2.2.2.1 (ok.2.2.2.2.1 _ fl_J0_38) (fun _ h => h) dJ0_isLatin1_aae02_0 ?_
  refine lv_if_eq ok.1 ok.2.1 dJ0_isLatin1_aae02_3 (tgt := 17) rfl (fun h => absurd h (by decide)) (fun _ => ?_)
  refine lv_aload_n ok.1 ok.2.1 dJ0_isLatin1_aae02_6 rfl (lv_at hl 0 rfl) ?_
  refine vk_getf ok.1 ok.2.1 (ok.2.2.2.2.2.1.1.1 0 (by decide)).2.1 va_S.rf ok.2.2.2.1 (ok.2.2.2.2.1 _ fl_J0_15) (fun _ h => h) dJ0_isLatin1_aae02_7 ?_
  refine lv_if_ne ok.1 ok.2.1 dJ0_isLatin1_aae02_10 (tgt := 17) rfl (fun h => absurd rfl h) (fun _ => ?_)
  refine lv_iconst ok.1 ok.2.1 dJ0_isLatin1_aae02_13 (v := 1) (by decide) ?_
  refine lv_goto ok.1 ok.2.1 dJ0_isLatin1_aae02_14 (tgt := 18) rfl ?_
  exact W.zret ok.1 ok.2.1 ok.2.2.2.2.2.2.1 rfl (fun t ht hW => ⟨⟨_, rfl, rfl⟩, ht⟩) noL dJ0_isLatin1_aae02_18 (hlocks := ok.2.2.2.2.2.2.2)
theorem cS_cod : SCt l d yJ0_coder_7d493 cJ0_coder_7d493 1 (some .byte) [.ref aK] aK aV (fun r => r = some (.int 0)) := by
  refine SCt_of rfl (by decide) (Nat.le_of_ble_eq_true rfl) (fun Γ ls ok hl => ?_)
  have hl : lv_has ls 1 [(0, .ref aK)] := hl
  refine va_gets ok.1 ok.2.1 ok.2.2.2.2.2.1.2.1 va_S.rf ok.2.2.2.1 (ok.2.2.2.2.1 _ fl_J0_38) (fun _ h => h) dJ0_coder_7d493_0 ?_
  refine lv_if_eq ok.1 ok.2.1 dJ0_coder_7d493_3 (tgt := 13) rfl (fun h => absurd h (by decide)) (fun _ => ?_)
  refine lv_aload_n ok.1 ok.2.1 dJ0_coder_7d493_6 rfl (lv_at hl 0 rfl) ?_
  refine vk_getf ok.1 ok.2.1 (ok.2.2.2.2.2.1.1.1 0 (by decide)).2.1 va_S.rf ok.2.2.2.1 (ok.2.2.2.2.1 _ fl_J0_15) (fun _ h => h) dJ0_coder_7d493_7 ?_
  refine lv_goto ok.1 ok.2.1 dJ0_coder_7d493_10 (tgt := 14) rfl ?_
  exact W.zret ok.1 ok.2.1 ok.2.2.2.2.2.2.1 rfl (fun t ht hW => ⟨⟨_, rfl, rfl⟩, ht⟩) noL dJ0_coder_7d493_14 (hlocks := ok.2.2.2.2.2.2.2)
theorem cS_len (hd : 1 ≤ d) : SCt l d yJ0_length_8abf5 cJ0_length_8abf5 1 (some .int) [.ref aK] aK aV (fun r => r = some (.int (nI 100))) := by
  refine SCt_of rfl (by decide) (Nat.le_of_ble_eq_true rfl) (fun Γ ls ok hl => ?_)
  have hl : lv_has ls 1 [(0, .ref aK)] := hl
  have hT : va_T .byte aV 100 (fun j => .int (sCh j)) noA Γ.2.2.1 Γ.2.2.1.heap := (ok.2.2.2.2.2.1.1.1 0 (by decide)).2.2.2
  refine lv_aload_n ok.1 ok.2.1 dJ0_length_8abf5_0 rfl (lv_at hl 0 rfl) ?_
  refine vk_getf ok.1 ok.2.1 (ok.2.2.2.2.2.1.1.1 0 (by decide)).2.2.1 va_S.rf ok.2.2.2.1 (ok.2.2.2.2.1 _ fl_J0_9) (fun _ h => h) dJ0_length_8abf5_1 ?_
  refine va_tlen ok.1 ok.2.1 hT va_S.rf (v := nI 100) rfl dJ0_length_8abf5_4 ?_
  refine lv_aload_n ok.1 ok.2.1 dJ0_length_8abf5_5 rfl (lv_at hl 0 rfl) ?_
  refine s_callV (As := []) (rest := [.int (nI 100)]) ca_J0_335 (cS_cod (d := 0)) (by omega) (by decide) rfl rfl (Nat.le_of_ble_eq_true rfl) dJ0_length_8abf5_6 (fun r hr => ?_) ls ok hl
  subst hr
  intro ls ok hl
  refine lv_ishr ok.1 ok.2.1 dJ0_length_8abf5_9 ?_
  exact W.iret (v := nI 100 >>> ((0 : Int32) &&& 31)) ok.1 ok.2.1 ok.2.2.2.2.2.2.1 (fun t ht hW => ⟨⟨_, rfl, by rw [show nI 100 >>> ((0 : Int32) &&& 31) = nI 100 by decide]⟩, ht⟩) noL dJ0_length_8abf5_10 (hlocks := ok.2.2.2.2.2.2.2)
theorem cS_chr {k : Nat} (hd : 3 ≤ d) (hk : k < 100) : SCt l d yJ0_charAt_5068e cJ0_charAt_5068e 2 (some .char) [.ref aK, .int (nI k)] aK aV (fun r => r = some (.int (sCh k))) := by
  refine SCt_of rfl (by decide) (Nat.le_of_ble_eq_true rfl) (fun Γ ls ok hl => ?_)
  have hl : lv_has ls 2 [(0, .ref aK), (1, .int (nI k))] := hl
  refine lv_aload_n ok.1 ok.2.1 dJ0_charAt_5068e_0 rfl (lv_at hl 0 rfl) ?_
  refine s_callV (As := []) (rest := []) ca_J0_492 (cS_lat (d := 0)) (by omega) (by decide) rfl rfl (by decide) dJ0_charAt_5068e_1 (fun r hr => ?_) ls ok hl
  subst hr
  intro ls ok hl
  refine lv_if_eq ok.1 ok.2.1 dJ0_charAt_5068e_4 (tgt := 16) rfl (fun h => absurd h (by decide)) (fun _ => ?_)
  refine lv_aload_n ok.1 ok.2.1 dJ0_charAt_5068e_7 rfl (lv_at hl 0 rfl) ?_
  refine vk_getf ok.1 ok.2.1 (ok.2.2.2.2.2.1.1.1 0 (by decide)).2.2.1 va_S.rf ok.2.2.2.1 (ok.2.2.2.2.1 _ fl_J0_9) (fun _ h => h) dJ0_charAt_5068e_8 ?_
  refine lv_iload_n ok.1 ok.2.1 dJ0_charAt_5068e_11 rfl (lv_at hl 1 rfl) ?_
  refine s_callS (As := [.ref aV, .int (nI k)]) (rest := []) ca_J0_495 (cS_ch1 (d := 2) (by omega) hk) (by omega) (by decide) rfl rfl (by decide) dJ0_charAt_5068e_12 (fun r hr => ?_) ls ok hl
  subst hr
  intro ls ok hl
  exact W.zret ok.1 ok.2.1 ok.2.2.2.2.2.2.1 (sCh_all k hk).2 (fun t ht hW => ⟨⟨_, rfl, rfl⟩, ht⟩) noL dJ0_charAt_5068e_15 (hlocks := ok.2.2.2.2.2.2.2)
end STR
