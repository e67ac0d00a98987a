/-! ===== words of the tables, by their places ===== -/
theorem tw_65 : Cond.initialized "SurplusLand" ∈ tG := tG_of (List.mem_of_getElem? (i := 65) (by decide +kernel)) (by decide +kernel)
theorem tw_67 : Cond.initialized "SurplusLand$Land" ∈ tG := tG_of (List.mem_of_getElem? (i := 67) (by decide +kernel)) (by decide +kernel)
theorem tw_233 : Cond.fieldLink "SurplusLand$Land" 75 "SurplusLand$Grower" "money" "J" ∈ tG := tG_of (List.mem_of_getElem? (i := 233) (by decide +kernel)) (by decide +kernel)
theorem tw_277 : Cond.fieldLink "SurplusLand$Land" 83 "SurplusLand$Bank" "money" "J" ∈ tG := tG_of (List.mem_of_getElem? (i := 277) (by decide +kernel)) (by decide +kernel)
theorem tw_286 : Cond.fieldLink "SurplusLand$Land" 11 "SurplusLand$Land" "growers" "[LSurplusLand$Grower;" ∈ tG := tG_of (List.mem_of_getElem? (i := 286) (by decide +kernel)) (by decide +kernel)
theorem tw_288 : Cond.fieldLink "SurplusLand$Land" 19 "SurplusLand$Land" "banks" "[LSurplusLand$Bank;" ∈ tG := tG_of (List.mem_of_getElem? (i := 288) (by decide +kernel)) (by decide +kernel)
theorem tw_297 : Cond.fieldLink "SurplusLand$Land" 58 "SurplusLand$Land" "settled" "I" ∈ tG := tG_of (List.mem_of_getElem? (i := 297) (by decide +kernel)) (by decide +kernel)
theorem tw_471 : Cond.static ⟨"SurplusLand", "isWithin", "(III)Z"⟩ ∈ tG := tG_of (List.mem_of_getElem? (i := 471) (by decide +kernel)) (by decide +kernel)
theorem tw_472 : Cond.code ⟨"SurplusLand", "isWithin", "(III)Z"⟩ prog_1_method_31_code 3 (some .boolean) ∈ tG := tG_of (List.mem_of_getElem? (i := 472) (by decide +kernel)) (by decide +kernel)
theorem tw_666 : Cond.instanceMethod ⟨"SurplusLand$Land", "hasGrower", "(I)Z"⟩ ∈ tG := tG_of (List.mem_of_getElem? (i := 666) (by decide +kernel)) (by decide +kernel)
theorem tw_667 : Cond.selects "SurplusLand$Land" ⟨"SurplusLand$Land", "hasGrower", "(I)Z"⟩ ⟨"SurplusLand$Land", "hasGrower", "(I)Z"⟩ ∈ tG := tG_of (List.mem_of_getElem? (i := 667) (by decide +kernel)) (by decide +kernel)
theorem tw_668 : Cond.code ⟨"SurplusLand$Land", "hasGrower", "(I)Z"⟩ prog_5_method_2_code 2 (some .boolean) ∈ tG := tG_of (List.mem_of_getElem? (i := 668) (by decide +kernel)) (by decide +kernel)
theorem tw_674 : Cond.methodLink "SurplusLand$Land" 65 ⟨"SurplusLand$Land", "hasGrower", "(I)Z"⟩ ∈ tG := tG_of (List.mem_of_getElem? (i := 674) (by decide +kernel)) (by decide +kernel)
theorem tw_809 : Cond.code ⟨"SurplusLand$Land", "credit", "(IJ)V"⟩ prog_5_method_6_code 4 (none) ∈ tG := tG_of (List.mem_of_getElem? (i := 809) (by decide +kernel)) (by decide +kernel)
theorem cok0 : Cok 0 RX0 TX0 tyX0 3 := ⟨rfl, by decide +kernel, by decide +kernel, tyX0_ok, nmX0, by decide, by decide +kernel⟩
theorem cok1 : Cok 1 RX1 TX1 tyX1 13 := ⟨rfl, by decide +kernel, by decide +kernel, tyX1_ok, nmX1, by decide, by decide +kernel⟩
theorem cok2 : Cok 2 RX2 TX2 tyX2 9 := ⟨rfl, by decide +kernel, by decide +kernel, tyX2_ok, nmX2, by decide, by decide +kernel⟩
theorem cok3 : Cok 3 RX3 TX3 tyX3 14 := ⟨rfl, by decide +kernel, by decide +kernel, tyX3_ok, nmX3, by decide, by decide +kernel⟩
theorem cok4 : Cok 4 RX4 TX4 tyX4 7 := ⟨rfl, by decide +kernel, by decide +kernel, tyX4_ok, nmX4, by decide, by decide +kernel⟩
theorem cok5 : Cok 5 RX5 TX5 tyX5 3 := ⟨rfl, by decide +kernel, by decide +kernel, tyX5_ok, nmX5, by decide, by decide +kernel⟩
theorem cok6 : Cok 6 RX6 TX6 tyX6 5 := ⟨rfl, by decide +kernel, by decide +kernel, tyX6_ok, nmX6, by decide, by decide +kernel⟩
theorem cok7 : Cok 7 RX7 TX7 tyX7 3 := ⟨rfl, by decide +kernel, by decide +kernel, tyX7_ok, nmX7, by decide, by decide +kernel⟩
theorem cok8 : Cok 8 RX8 TX8 tyX8 2 := ⟨rfl, by decide +kernel, by decide +kernel, tyX8_ok, nmX8, by decide, by decide +kernel⟩
theorem cok9 : Cok 9 RX9 TX9 tyX9 9 := ⟨rfl, by decide +kernel, by decide +kernel, tyX9_ok, nmX9, by decide, by decide +kernel⟩
theorem cok10 : Cok 10 RX10 TX10 tyX10 7 := ⟨rfl, by decide +kernel, by decide +kernel, tyX10_ok, nmX10, by decide, by decide +kernel⟩
theorem cok11 : Cok 11 RX11 TX11 tyX11 8 := ⟨rfl, by decide +kernel, by decide +kernel, tyX11_ok, nmX11, by decide, by decide +kernel⟩
theorem cok12 : Cok 12 RX12 TX12 tyX12 66 := ⟨rfl, by decide +kernel, by decide +kernel, tyX12_ok, nmX12, by decide, by decide +kernel⟩
def M_SL_isWithin : Md := (⟨"SurplusLand", "isWithin", "(III)Z"⟩, prog_1_method_31_code, 3, some .boolean)
theorem mb_SL_isWithin : MB M_SL_isWithin 3 := ⟨tw_472, tw_65, by decide +kernel, by decide +kernel, by decide +kernel⟩
def M_Land_hasGrower : Md := (⟨"SurplusLand$Land", "hasGrower", "(I)Z"⟩, prog_5_method_2_code, 2, some .boolean)
theorem mb_Land_hasGrower : MB M_Land_hasGrower 1 := ⟨tw_668, tw_67, by decide +kernel, by decide +kernel, by decide +kernel⟩
def M_Land_credit : Md := (⟨"SurplusLand$Land", "credit", "(IJ)V"⟩, prog_5_method_6_code, 4, none)
theorem mb_Land_credit : MB M_Land_credit 2 := ⟨tw_809, tw_67, by decide +kernel, by decide +kernel, by decide +kernel⟩
set_option maxRecDepth 20000 in
set_option maxHeartbeats 4000000 in
theorem en_SL_isWithin (g : Gc) {lv : Nat} {l0 : Int32} {l1 : Int32} {l2 : Int32} {m : Mm} {Q : Int32 → Mm → Prop} (h : if (l0) < (l1) then (Q (0 : Int32) m) else (if (l2) < (l0) then (Q (0 : Int32) m) else (Q (1 : Int32) m))) : CI g M_SL_isWithin (lv + 1) [.int (l0), .int (l1), .int (l2)] m Q := by
  refine Call.of (by decide +kernel) (Nat.le_of_ble_eq_true rfl) ?_
  show At g M_SL_isWithin (lv + 1) 0 [(0, .int (l0)), (1, .int (l1)), (2, .int (l2))] [] m (QI Q)
  refine at_iload_n (i := 0) 0 1 rfl (by decide +kernel) rfl ?_
  refine at_iload_n (i := 1) 1 2 rfl (by decide +kernel) rfl ?_
  refine at_icmp_lt (off := 12) 14 5 rfl (by decide +kernel) (by decide +kernel) (fun c1 => ?_) (fun c1 => ?_)
  · rw [if_pos c1] at h
    refine at_iconst (n := 0) (0 : Int32) 15 rfl (by decide +kernel) (by decide +kernel) ?_
    exact at_zret rfl (by decide +kernel) (Or.inl rfl) h
  · rw [if_neg c1] at h
    refine at_iload_n (i := 0) 0 6 rfl (by decide +kernel) rfl ?_
    refine at_iload_n (i := 2) 2 7 rfl (by decide +kernel) rfl ?_
    refine at_icmp_gt (off := 7) 14 10 rfl (by decide +kernel) (by decide +kernel) (fun c2 => ?_) (fun c2 => ?_)
    · rw [if_pos c2] at h
      refine at_iconst (n := 0) (0 : Int32) 15 rfl (by decide +kernel) (by decide +kernel) ?_
      exact at_zret rfl (by decide +kernel) (Or.inl rfl) h
    · rw [if_neg c2] at h
      refine at_iconst (n := 1) (1 : Int32) 11 rfl (by decide +kernel) (by decide +kernel) ?_
      refine at_goto (off := 4) 15 (by decide +kernel) (by decide +kernel) ?_
      exact at_zret rfl (by decide +kernel) (Or.inr rfl) h
set_option maxRecDepth 20000 in
set_option maxHeartbeats 4000000 in
theorem en_Land_hasGrower (g : Gc) {lv : Nat} {t : Nat} {l1 : Int32} {m : Mm} {Q : Int32 → Mm → Prop} (h : if (l1) < 0 then (Q (0 : Int32) m) else (mK m t = 4 ∧ (if (mI m t 8) ≤ (l1) then (Q (0 : Int32) m) else (Q (1 : Int32) m)))) : CI g M_Land_hasGrower (lv + 1) [va_rf (some t), .int (l1)] m Q := by
  refine Call.of (by decide +kernel) (Nat.le_of_ble_eq_true rfl) ?_
  show At g M_Land_hasGrower (lv + 1) 0 [(0, va_rf (some t)), (1, .int (l1))] [] m (QI Q)
  refine at_iload_n (i := 1) 1 1 rfl (by decide +kernel) rfl ?_
  refine at_if_lt (off := 15) 16 4 rfl (by decide +kernel) (by decide +kernel) (fun c1 => ?_) (fun c1 => ?_)
  · rw [if_pos c1] at h
    refine at_iconst (n := 0) (0 : Int32) 17 rfl (by decide +kernel) (by decide +kernel) ?_
    exact at_zret rfl (by decide +kernel) (Or.inl rfl) h
  · rw [if_neg c1] at h
    refine at_iload_n (i := 1) 1 5 rfl (by decide +kernel) rfl ?_
    refine at_aload_n (i := 0) 0 6 rfl (by decide +kernel) rfl ?_
    obtain ⟨k2, h⟩ := h
    refine at_get (index := 58) (v := .int (mI m t 8)) cok3 8 9 rfl (by decide +kernel) k2 (by decide +kernel) tw_297 rfl ?_
    refine at_icmp_ge (off := 7) 16 12 rfl (by decide +kernel) (by decide +kernel) (fun c3 => ?_) (fun c3 => ?_)
    · rw [if_pos c3] at h
      refine at_iconst (n := 0) (0 : Int32) 17 rfl (by decide +kernel) (by decide +kernel) ?_
      exact at_zret rfl (by decide +kernel) (Or.inl rfl) h
    · rw [if_neg c3] at h
      refine at_iconst (n := 1) (1 : Int32) 13 rfl (by decide +kernel) (by decide +kernel) ?_
      refine at_goto (off := 4) 17 (by decide +kernel) (by decide +kernel) ?_
      exact at_zret rfl (by decide +kernel) (Or.inr rfl) h
set_option maxRecDepth 20000 in
set_option maxHeartbeats 4000000 in
theorem en_Land_credit (g : Gc) {lv : Nat} {t : Nat} {l1 : Int32} {l2 : Int64} {m : Mm} {Q : Mm → Prop} (h : mK m t = 4 ∧ (CI g M_Land_hasGrower lv [va_rf (some t), .int (l1)] m (fun x2 m3 => (if (x2) = 0 then (CI g M_SL_isWithin lv [.int (l1), .int ((12 : Int32)), .int ((14 : Int32))] m3 (fun x7 m8 => (if (x7) = 0 then (Q m8) else (∃ b12, mR m8 t 2 = some b12 ∧ (mK m8 b12 = 18 ∧ (vp_in (l1 - (12 : Int32)) (mN m8 b12) ∧ (∃ b16, mR m8 b12 (l1 - (12 : Int32)).toNatClampNeg = some b16 ∧ (mK m8 b16 = 1 ∧ (∀ m19, m19 = sL m8 b16 2 ((mL m8 b16 2) + l2) → (Q m19)))))))))) else (∃ b24, mR m3 t 1 = some b24 ∧ (mK m3 b24 = 19 ∧ (vp_in l1 (mN m3 b24) ∧ (∃ b28, mR m3 b24 l1.toNatClampNeg = some b28 ∧ (mK m3 b28 = 2 ∧ (∀ m31, m31 = sL m3 b28 11 ((mL m3 b28 11) + l2) → (Q m31))))))))))) : CV g M_Land_credit (lv + 1) [va_rf (some t), .int (l1), .long (l2)] m Q := by
  refine Call.of (by decide +kernel) (Nat.le_of_ble_eq_true rfl) ?_
  show At g M_Land_credit (lv + 1) 0 [(0, va_rf (some t)), (1, .int (l1)), (2, .long (l2))] [] m (QV Q)
  refine at_aload_n (i := 0) 0 1 rfl (by decide +kernel) rfl ?_
  refine at_iload_n (i := 1) 1 2 rfl (by decide +kernel) rfl ?_
  obtain ⟨k1, h⟩ := h
  refine at_callV mb_Land_hasGrower tw_666 tw_667 cok3 k1 (index := 65) tw_674 [.int (l1)] [] rfl rfl (by decide) 5 rfl (by decide +kernel) (Call.toI (CI.monoE h (fun x2 m3 h y4 => ?_)))
  have k5 : mK m3 t = 4 := y4.k k1 (by decide)
  refine at_if_eq (off := 21) 26 8 rfl (by decide +kernel) (by decide +kernel) (fun c6 => ?_) (fun c6 => ?_)
  · rw [if_pos c6] at h
    refine at_iload_n (i := 1) 1 27 rfl (by decide +kernel) rfl ?_
    refine at_bipush (n := 12) (12 : Int32) 29 rfl (by decide +kernel) (by decide +kernel) ?_
    refine at_bipush (n := 14) (14 : Int32) 31 rfl (by decide +kernel) (by decide +kernel) ?_
    refine at_callSN mb_SL_isWithin tw_471 (index := 79) (host := "SurplusLand") (by decide +kernel) [.int (l1), .int ((12 : Int32)), .int ((14 : Int32))] [] rfl rfl (by decide) 34 rfl (by decide +kernel) (Call.toI (CI.monoE h (fun x7 m8 h y9 => ?_)))
    have k10 : mK m8 t = 4 := y9.k k5 (by decide)
    refine at_if_eq (off := 21) 55 37 rfl (by decide +kernel) (by decide +kernel) (fun c11 => ?_) (fun c11 => ?_)
    · rw [if_pos c11] at h
      exact at_vret rfl (by decide +kernel) h
    · rw [if_neg c11] at h
      refine at_aload_n (i := 0) 0 38 rfl (by decide +kernel) rfl ?_
      refine at_get (index := 19) (v := va_rf (mR m8 t 2)) cok3 2 41 rfl (by decide +kernel) k10 (by decide +kernel) tw_288 rfl ?_
      refine at_iload_n (i := 1) 1 42 rfl (by decide +kernel) rfl ?_
      refine at_bipush (n := 12) (12 : Int32) 44 rfl (by decide +kernel) (by decide +kernel) ?_
      refine at_isub 45 rfl (by decide +kernel) ?_
      obtain ⟨b12, e13, h⟩ := h
      rw [e13]
      obtain ⟨k14, h⟩ := h
      obtain ⟨v15, h⟩ := h
      refine at_aaldBank 46 rfl (by decide +kernel) k14 v15 ?_
      refine at_dup 47 rfl (by decide +kernel) (va_rf_cat _) ?_
      obtain ⟨b16, e17, h⟩ := h
      rw [e17]
      obtain ⟨k18, h⟩ := h
      refine at_get (index := 83) (v := .long (mL m8 b16 2)) cok0 2 50 rfl (by decide +kernel) k18 (by decide +kernel) tw_277 rfl ?_
      refine at_lload_n (i := 2) 2 51 rfl (by decide +kernel) rfl ?_
      refine at_ladd 52 rfl (by decide +kernel) ?_
      refine at_putJ (index := 83) cok0 2 55 rfl (by decide +kernel) k18 (by decide +kernel) tw_277 rfl rfl rfl (fun m19 e20 => ?_)
      replace h := h m19 e20
      have k21 : mK m19 t = 4 := by rw [e20]; exact k10
      have k22 : mK m19 b12 = 18 := by rw [e20]; exact k14
      have k23 : mK m19 b16 = 1 := by rw [e20]; exact k18
      exact at_vret rfl (by decide +kernel) h
  · rw [if_neg c6] at h
    refine at_aload_n (i := 0) 0 9 rfl (by decide +kernel) rfl ?_
    refine at_get (index := 11) (v := va_rf (mR m3 t 1)) cok3 1 12 rfl (by decide +kernel) k5 (by decide +kernel) tw_286 rfl ?_
    refine at_iload_n (i := 1) 1 13 rfl (by decide +kernel) rfl ?_
    obtain ⟨b24, e25, h⟩ := h
    rw [e25]
    obtain ⟨k26, h⟩ := h
    obtain ⟨v27, h⟩ := h
    refine at_aaldGrower 14 rfl (by decide +kernel) k26 v27 ?_
    refine at_dup 15 rfl (by decide +kernel) (va_rf_cat _) ?_
    obtain ⟨b28, e29, h⟩ := h
    rw [e29]
    obtain ⟨k30, h⟩ := h
    refine at_get (index := 75) (v := .long (mL m3 b28 11)) cok1 11 18 rfl (by decide +kernel) k30 (by decide +kernel) tw_233 rfl ?_
    refine at_lload_n (i := 2) 2 19 rfl (by decide +kernel) rfl ?_
    refine at_ladd 20 rfl (by decide +kernel) ?_
    refine at_putJ (index := 75) cok1 11 23 rfl (by decide +kernel) k30 (by decide +kernel) tw_233 rfl rfl rfl (fun m31 e32 => ?_)
    replace h := h m31 e32
    have k33 : mK m31 t = 4 := by rw [e32]; exact k5
    have k34 : mK m31 b24 = 19 := by rw [e32]; exact k26
    have k35 : mK m31 b28 = 2 := by rw [e32]; exact k30
    refine at_goto (off := 32) 55 (by decide +kernel) (by decide +kernel) ?_
    exact at_vret rfl (by decide +kernel) h
