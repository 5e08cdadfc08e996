/-! letterBits, beside the strings (the heap stays) -/
def lbF (x0 x1 : Int32) : Int32 := if (6 : Int32) ≤ x1 then 0 else (x0 - 97 + 1) <<< ((25 - 5 * x1) &&& 31)
theorem cS_let {l : Launch} {d aK aV : Nat} {x0 x1 : Int32} : SCt l d yX6_letterBits cX6_letterBits 2 (some .int) [.int x0, .int x1] aK aV (fun r => r = some (.int (lbF x0 x1))) := by
  refine SCt_of rfl (by decide) (Nat.le_of_ble_eq_true rfl) (fun Γ ls ok hl => ?_)
  have hl : lv_has ls 2 [(0, .int x0), (1, .int x1)] := hl
  refine lv_iload_n ok.1 ok.2.1 dX6_letterBits_0 rfl (lv_at hl 1 rfl) ?_
  refine lv_bipush ok.1 ok.2.1 dX6_letterBits_1 (v := 6) rfl ?_
  refine lv_icmp_ge ok.1 ok.2.1 dX6_letterBits_3 (tgt := 22) rfl (fun hge => ?_) (fun hge => ?_)
  · refine lv_iconst ok.1 ok.2.1 dX6_letterBits_22 (v := 0) (by decide) ?_
    exact W.iret (v := 0) ok.1 ok.2.1 ok.2.2.2.2.2.2.1 (fun t ht hW => ⟨⟨_, rfl, by rw [lbF, if_pos hge]⟩, ht⟩) noL dX6_letterBits_23 (hlocks := ok.2.2.2.2.2.2.2)
  · refine lv_iload_n ok.1 ok.2.1 dX6_letterBits_6 rfl (lv_at hl 0 rfl) ?_
    refine lv_bipush ok.1 ok.2.1 dX6_letterBits_7 (v := 97) rfl ?_
    refine lv_isub ok.1 ok.2.1 dX6_letterBits_9 ?_
    refine lv_iconst ok.1 ok.2.1 dX6_letterBits_10 (v := 1) (by decide) ?_
    refine lv_iadd ok.1 ok.2.1 dX6_letterBits_11 ?_
    refine lv_bipush ok.1 ok.2.1 dX6_letterBits_12 (v := 25) rfl ?_
    refine lv_iconst ok.1 ok.2.1 dX6_letterBits_14 (v := 5) (by decide) ?_
    refine lv_iload_n ok.1 ok.2.1 dX6_letterBits_15 rfl (lv_at hl 1 rfl) ?_
    refine lv_imul ok.1 ok.2.1 dX6_letterBits_16 ?_
    refine lv_isub ok.1 ok.2.1 dX6_letterBits_17 ?_
    refine lv_ishl ok.1 ok.2.1 dX6_letterBits_18 ?_
    refine lv_goto ok.1 ok.2.1 dX6_letterBits_19 (tgt := 23) rfl ?_
    exact W.iret (v := (x0 - 97 + 1) <<< ((25 - 5 * x1) &&& 31)) ok.1 ok.2.1 ok.2.2.2.2.2.2.1 (fun t ht hW => ⟨⟨_, rfl, by rw [lbF, if_neg hge]⟩, ht⟩) noL dX6_letterBits_23 (hlocks := ok.2.2.2.2.2.2.2)
